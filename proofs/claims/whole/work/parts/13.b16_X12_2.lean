/-! printed by gen/emit.py: what a walk from each cut point asks -/
def FX12_tells_0 (d : Nat) (K : Shp) (H : Mem) (q : Int → Mem → Prop) (v0 : Int) (v1 : Int) (v2 : Int) : Prop := Fr mX12_tells (d + 1) 0 0 none 0 [(0, (2, v0)), (1, (0, v1)), (2, (0, v2))] [] K H (qi K q)
set_option maxRecDepth 20000 in
theorem bX12_tells_0 {d : Nat} {K : Shp} {H : Mem} {q : Int → Mem → Prop} {v0 v1 v2 : Int} (h : ((0 : Int) ≤ v0) ∧ (K[(v0 : Int).toNat]? = some (12, 51)) ∧ Ci mX12_common d [(2, v0), (0, v1), (0, v2)] K H (fun x4 H3 => Ci mX12_divided d [(2, v0), (0, v1), (0, x4)] K H3 (fun x6 H5 => Ci mX12_divided d [(2, v0), (0, v2), (0, x4)] K H5 (fun x8 H7 => ∀ H9 : Mem, H9 = upA H7 (v0 : Int).toNat (up1 (H7 (v0 : Int).toNat) 9 0) → Ci mX12_sign d [(2, v0), (0, x8)] K H9 (fun x11 H10 => ((¬ (x11 : Int) < 0 → Cv mX12_tellsNumber d [(2, v0), (0, x6)] K H10 (fun H13 => Cv mX12_tells0 d [(2, v0), (0, 47)] K H13 (fun H15 => Ci mX12_sign d [(2, v0), (0, x8)] K H15 (fun x18 H17 => ((¬ (x18 : Int) < 0 → Cv mX12_tellsNumber d [(2, v0), (0, x8)] K H17 (fun H20 => ∀ H22 : Mem, H22 = upA H20 (v0 : Int).toNat (up1 (H20 (v0 : Int).toNat) 0 0) → q (H22 (v0 : Int).toNat 9) H22)) ∧ ((x18 : Int) < 0 → Ci mX12_turned d [(2, v0), (0, x8)] K H17 (fun x24 H23 => Cv mX12_tellsNumber d [(2, v0), (0, x24)] K H23 (fun H25 => ∀ H27 : Mem, H27 = upA H25 (v0 : Int).toNat (up1 (H25 (v0 : Int).toNat) 0 0) → q (H27 (v0 : Int).toNat 9) H27)))))))) ∧ ((x11 : Int) < 0 → Ci mX12_turned d [(2, v0), (0, x6)] K H10 (fun x29 H28 => Cv mX12_tellsNumber d [(2, v0), (0, x29)] K H28 (fun H30 => Cv mX12_tells0 d [(2, v0), (0, 47)] K H30 (fun H32 => Ci mX12_sign d [(2, v0), (0, x8)] K H32 (fun x35 H34 => ((¬ (x35 : Int) < 0 → Cv mX12_tellsNumber d [(2, v0), (0, x8)] K H34 (fun H37 => ∀ H39 : Mem, H39 = upA H37 (v0 : Int).toNat (up1 (H37 (v0 : Int).toNat) 0 0) → q (H39 (v0 : Int).toNat 9) H39)) ∧ ((x35 : Int) < 0 → Ci mX12_turned d [(2, v0), (0, x8)] K H34 (fun x41 H40 => Cv mX12_tellsNumber d [(2, v0), (0, x41)] K H40 (fun H42 => ∀ H44 : Mem, H44 = upA H42 (v0 : Int).toNat (up1 (H42 (v0 : Int).toNat) 0 0) → q (H44 (v0 : Int).toNat 9) H44))))))))))))))) : FX12_tells_0 d K H q (v0) (v1) (v2) := by
  unfold FX12_tells_0
  refine r_aload_n 0 dX12_tells_0 rfl rfl ?_
  refine r_iload_n 1 dX12_tells_1 rfl rfl ?_
  refine r_iload_n 2 dX12_tells_2 rfl rfl ?_
  obtain ⟨h1, h⟩ := h
  obtain ⟨h2, h⟩ := h
  refine r_invV (M := mX12_tells) (As := [(0, v1), (0, v2)]) (st := []) (X := v0) (mc := 0) (ms := 0) (fc := 0) (fs := 0) h ok_X12_common cls12 im_X12_common se_X12_common ml_RX12_168 dX12_tells_3 rfl h1 h2 (Nat.le_of_ble_eq_true rfl) rfl ?_
  rintro r K1 H3 ⟨rfl, x4, rfl, h⟩ -
  show Fr mX12_tells (d + 1) 0 0 none 6 [(0, (2, v0)), (1, (0, v1)), (2, (0, v2))] [(0, x4)] _ H3 _
  refine r_istore_n dX12_tells_6 rfl (by decide) rfl ?_
  refine r_aload_n 1 dX12_tells_7 rfl rfl ?_
  refine r_iload_n 2 dX12_tells_8 rfl rfl ?_
  refine r_iload_n 0 dX12_tells_9 rfl rfl ?_
  refine r_invV (M := mX12_tells) (As := [(0, v1), (0, x4)]) (st := []) (X := v0) (mc := 0) (ms := 0) (fc := 0) (fs := 0) h ok_X12_divided cls12 im_X12_divided se_X12_divided ml_RX12_171 dX12_tells_10 rfl h1 h2 (Nat.le_of_ble_eq_true rfl) rfl ?_
  rintro r K1 H5 ⟨rfl, x6, rfl, h⟩ -
  show Fr mX12_tells (d + 1) 0 0 none 13 [(3, (0, x4)), (0, (2, v0)), (1, (0, v1)), (2, (0, v2))] [(0, x6)] _ H5 _
  refine r_istore dX12_tells_13 (by decide) rfl ?_
  refine r_aload_n 2 dX12_tells_15 rfl rfl ?_
  refine r_iload_n 4 dX12_tells_16 rfl rfl ?_
  refine r_iload_n 1 dX12_tells_17 rfl rfl ?_
  refine r_invV (M := mX12_tells) (As := [(0, v2), (0, x4)]) (st := []) (X := v0) (mc := 0) (ms := 0) (fc := 0) (fs := 0) h ok_X12_divided cls12 im_X12_divided se_X12_divided ml_RX12_171 dX12_tells_18 rfl h1 h2 (Nat.le_of_ble_eq_true rfl) rfl ?_
  rintro r K1 H7 ⟨rfl, x8, rfl, h⟩ -
  show Fr mX12_tells (d + 1) 0 0 none 21 [(4, (0, x6)), (3, (0, x4)), (0, (2, v0)), (1, (0, v1)), (2, (0, v2))] [(0, x8)] _ H7 _
  refine r_istore dX12_tells_21 (by decide) rfl ?_
  refine r_aload_n 3 dX12_tells_23 rfl rfl ?_
  refine r_iconst dX12_tells_24 (by decide) (by decide) ?_
  refine r_putf cls12 9 dX12_tells_25 (by decide) rfl fl_RX12_160 rfl h1 h2 (fun o => o) ?_
  replace h := h _ rfl
  generalize upA H7 (v0 : Int).toNat (up1 (H7 (v0 : Int).toNat) 9 0) = H9 at h ⊢
  refine r_aload_n 3 dX12_tells_28 rfl rfl ?_
  refine r_aload_n 3 dX12_tells_29 rfl rfl ?_
  refine r_iload 0 dX12_tells_30 rfl ?_
  refine r_invV (M := mX12_tells) (As := [(0, x8)]) (st := [(2, v0)]) (X := v0) (mc := 0) (ms := 0) (fc := 0) (fs := 0) h ok_X12_sign cls12 im_X12_sign se_X12_sign ml_RX12_112 dX12_tells_32 rfl h1 h2 (Nat.le_of_ble_eq_true rfl) rfl ?_
  rintro r K1 H10 ⟨rfl, x11, rfl, h⟩ -
  show Fr mX12_tells (d + 1) 0 0 none 35 [(5, (0, x8)), (4, (0, x6)), (3, (0, x4)), (0, (2, v0)), (1, (0, v1)), (2, (0, v2))] [(0, x11), (2, v0)] _ H10 _
  refine r_if_ge (tgt := 47) dX12_tells_35 (by decide) (fun c12 => ?_) (fun c12 => ?_)
  · replace h := h.1 c12
    refine r_iload 1 dX12_tells_47 rfl ?_
    refine r_invV (M := mX12_tells) (As := [(0, x6)]) (st := []) (X := v0) (mc := 0) (ms := 0) (fc := 0) (fs := 0) h ok_X12_tellsNumber cls12 im_X12_tellsNumber se_X12_tellsNumber ml_RX12_174 dX12_tells_49 rfl h1 h2 (Nat.le_of_ble_eq_true rfl) rfl ?_
    rintro r K1 H13 ⟨rfl, rfl, h⟩ -
    show Fr mX12_tells (d + 1) 0 0 none 52 [(5, (0, x8)), (4, (0, x6)), (3, (0, x4)), (0, (2, v0)), (1, (0, v1)), (2, (0, v2))] [] _ H13 _
    refine r_aload_n 3 dX12_tells_52 rfl rfl ?_
    refine r_bipush dX12_tells_53 (by decide) (by decide) ?_
    refine r_invV (M := mX12_tells) (As := [(0, 47)]) (st := []) (X := v0) (mc := 0) (ms := 0) (fc := 0) (fs := 0) h ok_X12_tells0 cls12 im_X12_tells0 se_X12_tells0 ml_RX12_163 dX12_tells_55 rfl h1 h2 (Nat.le_of_ble_eq_true rfl) rfl ?_
    rintro r K1 H15 ⟨rfl, rfl, h⟩ -
    show Fr mX12_tells (d + 1) 0 0 none 58 [(5, (0, x8)), (4, (0, x6)), (3, (0, x4)), (0, (2, v0)), (1, (0, v1)), (2, (0, v2))] [] _ H15 _
    refine r_aload_n 3 dX12_tells_58 rfl rfl ?_
    refine r_aload_n 3 dX12_tells_59 rfl rfl ?_
    refine r_iload 0 dX12_tells_60 rfl ?_
    refine r_invV (M := mX12_tells) (As := [(0, x8)]) (st := [(2, v0)]) (X := v0) (mc := 0) (ms := 0) (fc := 0) (fs := 0) h ok_X12_sign cls12 im_X12_sign se_X12_sign ml_RX12_112 dX12_tells_62 rfl h1 h2 (Nat.le_of_ble_eq_true rfl) rfl ?_
    rintro r K1 H17 ⟨rfl, x18, rfl, h⟩ -
    show Fr mX12_tells (d + 1) 0 0 none 65 [(5, (0, x8)), (4, (0, x6)), (3, (0, x4)), (0, (2, v0)), (1, (0, v1)), (2, (0, v2))] [(0, x18), (2, v0)] _ H17 _
    refine r_if_ge (tgt := 77) dX12_tells_65 (by decide) (fun c19 => ?_) (fun c19 => ?_)
    · replace h := h.1 c19
      refine r_iload 0 dX12_tells_77 rfl ?_
      refine r_invV (M := mX12_tells) (As := [(0, x8)]) (st := []) (X := v0) (mc := 0) (ms := 0) (fc := 0) (fs := 0) h ok_X12_tellsNumber cls12 im_X12_tellsNumber se_X12_tellsNumber ml_RX12_174 dX12_tells_79 rfl h1 h2 (Nat.le_of_ble_eq_true rfl) rfl ?_
      rintro r K1 H20 ⟨rfl, rfl, h⟩ -
      show Fr mX12_tells (d + 1) 0 0 none 82 [(5, (0, x8)), (4, (0, x6)), (3, (0, x4)), (0, (2, v0)), (1, (0, v1)), (2, (0, v2))] [] _ H20 _
      refine r_aload_n 3 dX12_tells_82 rfl rfl ?_
      refine r_iconst dX12_tells_83 (by decide) (by decide) ?_
      refine r_putf cls12 0 dX12_tells_84 (by decide) rfl fl_RX12_89 rfl h1 h2 (fun o => o) ?_
      replace h := h _ rfl
      generalize upA H20 (v0 : Int).toNat (up1 (H20 (v0 : Int).toNat) 0 0) = H22 at h ⊢
      refine r_aload_n 3 dX12_tells_87 rfl rfl ?_
      refine r_getf cls12 9 dX12_tells_88 (by decide) fl_RX12_160 rfl h1 h2 ?_
      exact r_iret dX12_tells_91 rfl ⟨rfl, _, rfl, h⟩
    · replace h := h.2 c19
      refine r_aload_n 3 dX12_tells_68 rfl rfl ?_
      refine r_iload 0 dX12_tells_69 rfl ?_
      refine r_invV (M := mX12_tells) (As := [(0, x8)]) (st := [(2, v0)]) (X := v0) (mc := 0) (ms := 0) (fc := 0) (fs := 0) h ok_X12_turned cls12 im_X12_turned se_X12_turned ml_RX12_129 dX12_tells_71 rfl h1 h2 (Nat.le_of_ble_eq_true rfl) rfl ?_
      rintro r K1 H23 ⟨rfl, x24, rfl, h⟩ -
      show Fr mX12_tells (d + 1) 0 0 none 74 [(5, (0, x8)), (4, (0, x6)), (3, (0, x4)), (0, (2, v0)), (1, (0, v1)), (2, (0, v2))] [(0, x24), (2, v0)] _ H23 _
      refine r_goto (tgt := 79) dX12_tells_74 (by decide) ?_
      refine r_invV (M := mX12_tells) (As := [(0, x24)]) (st := []) (X := v0) (mc := 0) (ms := 0) (fc := 0) (fs := 0) h ok_X12_tellsNumber cls12 im_X12_tellsNumber se_X12_tellsNumber ml_RX12_174 dX12_tells_79 rfl h1 h2 (Nat.le_of_ble_eq_true rfl) rfl ?_
      rintro r K1 H25 ⟨rfl, rfl, h⟩ -
      show Fr mX12_tells (d + 1) 0 0 none 82 [(5, (0, x8)), (4, (0, x6)), (3, (0, x4)), (0, (2, v0)), (1, (0, v1)), (2, (0, v2))] [] _ H25 _
      refine r_aload_n 3 dX12_tells_82 rfl rfl ?_
      refine r_iconst dX12_tells_83 (by decide) (by decide) ?_
      refine r_putf cls12 0 dX12_tells_84 (by decide) rfl fl_RX12_89 rfl h1 h2 (fun o => o) ?_
      replace h := h _ rfl
      generalize upA H25 (v0 : Int).toNat (up1 (H25 (v0 : Int).toNat) 0 0) = H27 at h ⊢
      refine r_aload_n 3 dX12_tells_87 rfl rfl ?_
      refine r_getf cls12 9 dX12_tells_88 (by decide) fl_RX12_160 rfl h1 h2 ?_
      exact r_iret dX12_tells_91 rfl ⟨rfl, _, rfl, h⟩
  · replace h := h.2 c12
    refine r_aload_n 3 dX12_tells_38 rfl rfl ?_
    refine r_iload 1 dX12_tells_39 rfl ?_
    refine r_invV (M := mX12_tells) (As := [(0, x6)]) (st := [(2, v0)]) (X := v0) (mc := 0) (ms := 0) (fc := 0) (fs := 0) h ok_X12_turned cls12 im_X12_turned se_X12_turned ml_RX12_129 dX12_tells_41 rfl h1 h2 (Nat.le_of_ble_eq_true rfl) rfl ?_
    rintro r K1 H28 ⟨rfl, x29, rfl, h⟩ -
    show Fr mX12_tells (d + 1) 0 0 none 44 [(5, (0, x8)), (4, (0, x6)), (3, (0, x4)), (0, (2, v0)), (1, (0, v1)), (2, (0, v2))] [(0, x29), (2, v0)] _ H28 _
    refine r_goto (tgt := 49) dX12_tells_44 (by decide) ?_
    refine r_invV (M := mX12_tells) (As := [(0, x29)]) (st := []) (X := v0) (mc := 0) (ms := 0) (fc := 0) (fs := 0) h ok_X12_tellsNumber cls12 im_X12_tellsNumber se_X12_tellsNumber ml_RX12_174 dX12_tells_49 rfl h1 h2 (Nat.le_of_ble_eq_true rfl) rfl ?_
    rintro r K1 H30 ⟨rfl, rfl, h⟩ -
    show Fr mX12_tells (d + 1) 0 0 none 52 [(5, (0, x8)), (4, (0, x6)), (3, (0, x4)), (0, (2, v0)), (1, (0, v1)), (2, (0, v2))] [] _ H30 _
    refine r_aload_n 3 dX12_tells_52 rfl rfl ?_
    refine r_bipush dX12_tells_53 (by decide) (by decide) ?_
    refine r_invV (M := mX12_tells) (As := [(0, 47)]) (st := []) (X := v0) (mc := 0) (ms := 0) (fc := 0) (fs := 0) h ok_X12_tells0 cls12 im_X12_tells0 se_X12_tells0 ml_RX12_163 dX12_tells_55 rfl h1 h2 (Nat.le_of_ble_eq_true rfl) rfl ?_
    rintro r K1 H32 ⟨rfl, rfl, h⟩ -
    show Fr mX12_tells (d + 1) 0 0 none 58 [(5, (0, x8)), (4, (0, x6)), (3, (0, x4)), (0, (2, v0)), (1, (0, v1)), (2, (0, v2))] [] _ H32 _
    refine r_aload_n 3 dX12_tells_58 rfl rfl ?_
    refine r_aload_n 3 dX12_tells_59 rfl rfl ?_
    refine r_iload 0 dX12_tells_60 rfl ?_
    refine r_invV (M := mX12_tells) (As := [(0, x8)]) (st := [(2, v0)]) (X := v0) (mc := 0) (ms := 0) (fc := 0) (fs := 0) h ok_X12_sign cls12 im_X12_sign se_X12_sign ml_RX12_112 dX12_tells_62 rfl h1 h2 (Nat.le_of_ble_eq_true rfl) rfl ?_
    rintro r K1 H34 ⟨rfl, x35, rfl, h⟩ -
    show Fr mX12_tells (d + 1) 0 0 none 65 [(5, (0, x8)), (4, (0, x6)), (3, (0, x4)), (0, (2, v0)), (1, (0, v1)), (2, (0, v2))] [(0, x35), (2, v0)] _ H34 _
    refine r_if_ge (tgt := 77) dX12_tells_65 (by decide) (fun c36 => ?_) (fun c36 => ?_)
    · replace h := h.1 c36
      refine r_iload 0 dX12_tells_77 rfl ?_
      refine r_invV (M := mX12_tells) (As := [(0, x8)]) (st := []) (X := v0) (mc := 0) (ms := 0) (fc := 0) (fs := 0) h ok_X12_tellsNumber cls12 im_X12_tellsNumber se_X12_tellsNumber ml_RX12_174 dX12_tells_79 rfl h1 h2 (Nat.le_of_ble_eq_true rfl) rfl ?_
      rintro r K1 H37 ⟨rfl, rfl, h⟩ -
      show Fr mX12_tells (d + 1) 0 0 none 82 [(5, (0, x8)), (4, (0, x6)), (3, (0, x4)), (0, (2, v0)), (1, (0, v1)), (2, (0, v2))] [] _ H37 _
      refine r_aload_n 3 dX12_tells_82 rfl rfl ?_
      refine r_iconst dX12_tells_83 (by decide) (by decide) ?_
      refine r_putf cls12 0 dX12_tells_84 (by decide) rfl fl_RX12_89 rfl h1 h2 (fun o => o) ?_
      replace h := h _ rfl
      generalize upA H37 (v0 : Int).toNat (up1 (H37 (v0 : Int).toNat) 0 0) = H39 at h ⊢
      refine r_aload_n 3 dX12_tells_87 rfl rfl ?_
      refine r_getf cls12 9 dX12_tells_88 (by decide) fl_RX12_160 rfl h1 h2 ?_
      exact r_iret dX12_tells_91 rfl ⟨rfl, _, rfl, h⟩
    · replace h := h.2 c36
      refine r_aload_n 3 dX12_tells_68 rfl rfl ?_
      refine r_iload 0 dX12_tells_69 rfl ?_
      refine r_invV (M := mX12_tells) (As := [(0, x8)]) (st := [(2, v0)]) (X := v0) (mc := 0) (ms := 0) (fc := 0) (fs := 0) h ok_X12_turned cls12 im_X12_turned se_X12_turned ml_RX12_129 dX12_tells_71 rfl h1 h2 (Nat.le_of_ble_eq_true rfl) rfl ?_
      rintro r K1 H40 ⟨rfl, x41, rfl, h⟩ -
      show Fr mX12_tells (d + 1) 0 0 none 74 [(5, (0, x8)), (4, (0, x6)), (3, (0, x4)), (0, (2, v0)), (1, (0, v1)), (2, (0, v2))] [(0, x41), (2, v0)] _ H40 _
      refine r_goto (tgt := 79) dX12_tells_74 (by decide) ?_
      refine r_invV (M := mX12_tells) (As := [(0, x41)]) (st := []) (X := v0) (mc := 0) (ms := 0) (fc := 0) (fs := 0) h ok_X12_tellsNumber cls12 im_X12_tellsNumber se_X12_tellsNumber ml_RX12_174 dX12_tells_79 rfl h1 h2 (Nat.le_of_ble_eq_true rfl) rfl ?_
      rintro r K1 H42 ⟨rfl, rfl, h⟩ -
      show Fr mX12_tells (d + 1) 0 0 none 82 [(5, (0, x8)), (4, (0, x6)), (3, (0, x4)), (0, (2, v0)), (1, (0, v1)), (2, (0, v2))] [] _ H42 _
      refine r_aload_n 3 dX12_tells_82 rfl rfl ?_
      refine r_iconst dX12_tells_83 (by decide) (by decide) ?_
      refine r_putf cls12 0 dX12_tells_84 (by decide) rfl fl_RX12_89 rfl h1 h2 (fun o => o) ?_
      replace h := h _ rfl
      generalize upA H42 (v0 : Int).toNat (up1 (H42 (v0 : Int).toNat) 0 0) = H44 at h ⊢
      refine r_aload_n 3 dX12_tells_87 rfl rfl ?_
      refine r_getf cls12 9 dX12_tells_88 (by decide) fl_RX12_160 rfl h1 h2 ?_
      exact r_iret dX12_tells_91 rfl ⟨rfl, _, rfl, h⟩
set_option maxRecDepth 20000 in
theorem eX12_tells {d : Nat} {K : Shp} {H : Mem} {q : Int → Mem → Prop} {v0 v1 v2 : Int} (h : inI v1 → inI v2 → Rng K H → FX12_tells_0 d K H q v0 v1 v2) : Ci mX12_tells (d + 1) [(2, v0), (0, v1), (0, v2)] K H q := Call.of rfl (Nat.le_of_ble_eq_true rfl) (fun o r => h (o (0, v1) (by simp)) (o (0, v2) (by simp)) r)
def FX12_isSection_0 (d : Nat) (K : Shp) (H : Mem) (q : Int → Mem → Prop) (v0 : Int) : Prop := Fr mX12_isSection d 0 0 none 0 [(0, (0, v0))] [] K H (qi K q)
set_option maxRecDepth 20000 in
theorem bX12_isSection_0 {d : Nat} {K : Shp} {H : Mem} {q : Int → Mem → Prop} {v0 : Int} (h : (((v0 : Int) < 0 → q 0 H) ∧ (¬ (v0 : Int) < 0 → ((¬ (v0 : Int) < 4 → q 0 H) ∧ ((v0 : Int) < 4 → q 1 H))))) : FX12_isSection_0 d K H q (v0) := by
  unfold FX12_isSection_0
  refine r_iload_n 0 dX12_isSection_0 rfl rfl ?_
  refine r_if_lt (tgt := 13) dX12_isSection_1 (by decide) (fun c1 => ?_) (fun c1 => ?_)
  · replace h := h.1 c1
    refine r_iconst dX12_isSection_13 (by decide) (by decide) ?_
    exact r_zret dX12_isSection_14 rfl (Or.inl rfl) ⟨rfl, _, rfl, h⟩
  · replace h := h.2 c1
    refine r_iload_n 0 dX12_isSection_4 rfl rfl ?_
    refine r_iconst dX12_isSection_5 (by decide) (by decide) ?_
    refine r_icmp_ge (tgt := 13) dX12_isSection_6 (by decide) (fun c2 => ?_) (fun c2 => ?_)
    · replace h := h.1 c2
      refine r_iconst dX12_isSection_13 (by decide) (by decide) ?_
      exact r_zret dX12_isSection_14 rfl (Or.inl rfl) ⟨rfl, _, rfl, h⟩
    · replace h := h.2 c2
      refine r_iconst dX12_isSection_9 (by decide) (by decide) ?_
      refine r_goto (tgt := 14) dX12_isSection_10 (by decide) ?_
      exact r_zret dX12_isSection_14 rfl (Or.inr rfl) ⟨rfl, _, rfl, h⟩
set_option maxRecDepth 20000 in
theorem eX12_isSection {d : Nat} {K : Shp} {H : Mem} {q : Int → Mem → Prop} {v0 : Int} (h : inI v0 → Rng K H → FX12_isSection_0 d K H q v0) : Ci mX12_isSection d [(0, v0)] K H q := Call.of rfl (Nat.le_of_ble_eq_true rfl) (fun o r => h (o (0, v0) (by simp)) r)
def FX12_stone_0 (d : Nat) (K : Shp) (H : Mem) (q : Int → Mem → Prop) (v0 : Int) (v1 : Int) (v2 : Int) (v3 : Int) : Prop := Fr mX12_stone (d + 1) 0 0 none 0 [(0, (2, v0)), (1, (0, v1)), (2, (0, v2)), (3, (0, v3))] [] K H (qi K q)
def FX12_stone_78 (d : Nat) (K : Shp) (H : Mem) (q : Int → Mem → Prop) (v0 : Int) (v1 : Int) (v4 : Int) : Prop := Fr mX12_stone (d + 1) 0 0 none 78 [(0, (2, v0)), (1, (0, v1)), (4, (0, v4))] [] K H (qi K q)
set_option maxRecDepth 20000 in
theorem bX12_stone_0 {d : Nat} {K : Shp} {H : Mem} {q : Int → Mem → Prop} {v0 v1 v2 v3 : Int} (h : Ci mX12_isSection d [(0, v1)] K H (fun x2 H1 => ((¬ (x2 : Int) = 0 → (((v2 : Int) < 1 → ((0 : Int) ≤ v0) ∧ (K[(v0 : Int).toNat]? = some (12, 51)) ∧ Ci mX12_is d [(2, v0), (0, 2)] K H1 (fun x8 H7 => ((x8 : Int) = 0 ∨ (x8 : Int) = 1) ∧ q x8 H7)) ∧ (¬ (v2 : Int) < 1 → ((¬ (v2 : Int) ≤ 50 → ((0 : Int) ≤ v0) ∧ (K[(v0 : Int).toNat]? = some (12, 51)) ∧ Ci mX12_is d [(2, v0), (0, 2)] K H1 (fun x14 H13 => ((x14 : Int) = 0 ∨ (x14 : Int) = 1) ∧ q x14 H13)) ∧ ((v2 : Int) ≤ 50 → (((v3 : Int) < 0 → ((0 : Int) ≤ v0) ∧ (K[(v0 : Int).toNat]? = some (12, 51)) ∧ Ci mX12_is d [(2, v0), (0, 2)] K H1 (fun x20 H19 => ((x20 : Int) = 0 ∨ (x20 : Int) = 1) ∧ q x20 H19)) ∧ (¬ (v3 : Int) < 0 → (((v3 : Int) ≤ 100 → ((0 : Int) ≤ v0) ∧ (K[(v0 : Int).toNat]? = some (12, 51)) ∧ ((0 : Int) ≤ (H1 (v0 : Int).toNat 10)) ∧ ∃ n26 : Nat, (K[((H1 (v0 : Int).toNat 10) : Int).toNat]? = some (20, n26)) ∧ ((0 : Int) ≤ v1) ∧ ((v1 : Int) < n26) ∧ ∀ H30 : Mem, H30 = upA H1 ((H1 (v0 : Int).toNat 10) : Int).toNat (up1 (H1 ((H1 (v0 : Int).toNat 10) : Int).toNat) (v1 : Int).toNat v2) → ((0 : Int) ≤ (H30 (v0 : Int).toNat 11)) ∧ ∃ n32 : Nat, (K[((H30 (v0 : Int).toNat 11) : Int).toNat]? = some (20, n32)) ∧ ((v1 : Int) < n32) ∧ ∀ H35 : Mem, H35 = upA H30 ((H30 (v0 : Int).toNat 11) : Int).toNat (up1 (H30 ((H30 (v0 : Int).toNat 11) : Int).toNat) (v1 : Int).toNat v3) → ((0 : Int) ≤ (H35 (v0 : Int).toNat 12)) ∧ ∃ n37 : Nat, (K[((H35 (v0 : Int).toNat 12) : Int).toNat]? = some (20, n37)) ∧ ((v1 : Int) < n37) ∧ ∀ H40 : Mem, H40 = upA H35 ((H35 (v0 : Int).toNat 12) : Int).toNat (up1 (H35 ((H35 (v0 : Int).toNat 12) : Int).toNat) (v1 : Int).toNat 0) → ((0 : Int) ≤ (H40 (v0 : Int).toNat 13)) ∧ ∃ n42 : Nat, (K[((H40 (v0 : Int).toNat 13) : Int).toNat]? = some (20, n42)) ∧ ((v1 : Int) < n42) ∧ ∀ H45 : Mem, H45 = upA H40 ((H40 (v0 : Int).toNat 13) : Int).toNat (up1 (H40 ((H40 (v0 : Int).toNat 13) : Int).toNat) (v1 : Int).toNat 0) → ((0 : Int) ≤ (H45 (v0 : Int).toNat 14)) ∧ ∃ n47 : Nat, (K[((H45 (v0 : Int).toNat 14) : Int).toNat]? = some (20, n47)) ∧ ((v1 : Int) < n47) ∧ ∀ H50 : Mem, H50 = upA H45 ((H45 (v0 : Int).toNat 14) : Int).toNat (up1 (H45 ((H45 (v0 : Int).toNat 14) : Int).toNat) (v1 : Int).toNat 0) → FX12_stone_78 d K H50 q (v0) (v1) (0)) ∧ (¬ (v3 : Int) ≤ 100 → ((0 : Int) ≤ v0) ∧ (K[(v0 : Int).toNat]? = some (12, 51)) ∧ Ci mX12_is d [(2, v0), (0, 2)] K H1 (fun x54 H53 => ((x54 : Int) = 0 ∨ (x54 : Int) = 1) ∧ q x54 H53)))))))))) ∧ ((x2 : Int) = 0 → ((0 : Int) ≤ v0) ∧ (K[(v0 : Int).toNat]? = some (12, 51)) ∧ Ci mX12_is d [(2, v0), (0, 1)] K H1 (fun x59 H58 => ((x59 : Int) = 0 ∨ (x59 : Int) = 1) ∧ q x59 H58))))) : FX12_stone_0 d K H q (v0) (v1) (v2) (v3) := by
  unfold FX12_stone_0
  refine r_iload_n 1 dX12_stone_0 rfl rfl ?_
  refine r_invS (M := mX12_stone) (As := [(0, v1)]) (st := []) (mc := 0) (ms := 0) (fc := 0) (fs := 0) h ok_X12_isSection sm_X12_isSection ml_RX12_177 dX12_stone_1 rfl (Nat.le_of_ble_eq_true rfl) rfl ?_
  rintro r K1 H1 ⟨rfl, x2, rfl, h⟩ -
  show Fr mX12_stone (d + 1) 0 0 none 4 [(0, (2, v0)), (1, (0, v1)), (2, (0, v2)), (3, (0, v3))] [(0, x2)] _ H1 _
  refine r_if_ne (tgt := 13) dX12_stone_4 (by decide) (fun c3 => ?_) (fun c3 => ?_)
  · replace h := h.1 c3
    refine r_iload_n 2 dX12_stone_13 rfl rfl ?_
    refine r_iconst dX12_stone_14 (by decide) (by decide) ?_
    refine r_icmp_lt (tgt := 34) dX12_stone_15 (by decide) (fun c4 => ?_) (fun c4 => ?_)
    · replace h := h.1 c4
      refine r_aload_n 0 dX12_stone_34 rfl rfl ?_
      refine r_iconst dX12_stone_35 (by decide) (by decide) ?_
      obtain ⟨h5, h⟩ := h
      obtain ⟨h6, h⟩ := h
      refine r_invV (M := mX12_stone) (As := [(0, 2)]) (st := []) (X := v0) (mc := 0) (ms := 0) (fc := 0) (fs := 0) h ok_X12_is cls12 im_X12_is se_X12_is ml_RX12_181 dX12_stone_36 rfl h5 h6 (Nat.le_of_ble_eq_true rfl) rfl ?_
      rintro r K1 H7 ⟨rfl, x8, rfl, h⟩ -
      show Fr mX12_stone (d + 1) 0 0 none 39 [(0, (2, v0)), (1, (0, v1)), (2, (0, v2)), (3, (0, v3))] [(0, x8)] _ H7 _
      obtain ⟨h9, h⟩ := h
      exact r_zret dX12_stone_39 rfl h9 ⟨rfl, _, rfl, h⟩
    · replace h := h.2 c4
      refine r_iload_n 2 dX12_stone_18 rfl rfl ?_
      refine r_bipush dX12_stone_19 (by decide) (by decide) ?_
      refine r_icmp_gt (tgt := 34) dX12_stone_21 (by decide) (fun c10 => ?_) (fun c10 => ?_)
      · replace h := h.1 c10
        refine r_aload_n 0 dX12_stone_34 rfl rfl ?_
        refine r_iconst dX12_stone_35 (by decide) (by decide) ?_
        obtain ⟨h11, h⟩ := h
        obtain ⟨h12, h⟩ := h
        refine r_invV (M := mX12_stone) (As := [(0, 2)]) (st := []) (X := v0) (mc := 0) (ms := 0) (fc := 0) (fs := 0) h ok_X12_is cls12 im_X12_is se_X12_is ml_RX12_181 dX12_stone_36 rfl h11 h12 (Nat.le_of_ble_eq_true rfl) rfl ?_
        rintro r K1 H13 ⟨rfl, x14, rfl, h⟩ -
        show Fr mX12_stone (d + 1) 0 0 none 39 [(0, (2, v0)), (1, (0, v1)), (2, (0, v2)), (3, (0, v3))] [(0, x14)] _ H13 _
        obtain ⟨h15, h⟩ := h
        exact r_zret dX12_stone_39 rfl h15 ⟨rfl, _, rfl, h⟩
      · replace h := h.2 c10
        refine r_iload_n 3 dX12_stone_24 rfl rfl ?_
        refine r_if_lt (tgt := 34) dX12_stone_25 (by decide) (fun c16 => ?_) (fun c16 => ?_)
        · replace h := h.1 c16
          refine r_aload_n 0 dX12_stone_34 rfl rfl ?_
          refine r_iconst dX12_stone_35 (by decide) (by decide) ?_
          obtain ⟨h17, h⟩ := h
          obtain ⟨h18, h⟩ := h
          refine r_invV (M := mX12_stone) (As := [(0, 2)]) (st := []) (X := v0) (mc := 0) (ms := 0) (fc := 0) (fs := 0) h ok_X12_is cls12 im_X12_is se_X12_is ml_RX12_181 dX12_stone_36 rfl h17 h18 (Nat.le_of_ble_eq_true rfl) rfl ?_
          rintro r K1 H19 ⟨rfl, x20, rfl, h⟩ -
          show Fr mX12_stone (d + 1) 0 0 none 39 [(0, (2, v0)), (1, (0, v1)), (2, (0, v2)), (3, (0, v3))] [(0, x20)] _ H19 _
          obtain ⟨h21, h⟩ := h
          exact r_zret dX12_stone_39 rfl h21 ⟨rfl, _, rfl, h⟩
        · replace h := h.2 c16
          refine r_iload_n 3 dX12_stone_28 rfl rfl ?_
          refine r_bipush dX12_stone_29 (by decide) (by decide) ?_
          refine r_icmp_le (tgt := 40) dX12_stone_31 (by decide) (fun c22 => ?_) (fun c22 => ?_)
          · replace h := h.1 c22
            refine r_aload_n 0 dX12_stone_40 rfl rfl ?_
            obtain ⟨h23, h⟩ := h
            obtain ⟨h24, h⟩ := h
            refine r_getf cls12 10 dX12_stone_41 (by decide) fl_RX12_25 rfl h23 h24 ?_
            refine r_iload_n 1 dX12_stone_44 rfl rfl ?_
            refine r_iload_n 2 dX12_stone_45 rfl rfl ?_
            obtain ⟨h25, h⟩ := h
            obtain ⟨n26, h⟩ := h
            obtain ⟨h27, h⟩ := h
            obtain ⟨h28, h⟩ := h
            obtain ⟨h29, h⟩ := h
            refine r_iast n26 dX12_stone_46 h25 h27 h28 h29 ?_
            replace h := h _ rfl
            generalize upA H1 ((H1 (v0 : Int).toNat 10) : Int).toNat (up1 (H1 ((H1 (v0 : Int).toNat 10) : Int).toNat) (v1 : Int).toNat v2) = H30 at h ⊢
            refine r_aload_n 0 dX12_stone_47 rfl rfl ?_
            refine r_getf cls12 11 dX12_stone_48 (by decide) fl_RX12_28 rfl h23 h24 ?_
            refine r_iload_n 1 dX12_stone_51 rfl rfl ?_
            refine r_iload_n 3 dX12_stone_52 rfl rfl ?_
            obtain ⟨h31, h⟩ := h
            obtain ⟨n32, h⟩ := h
            obtain ⟨h33, h⟩ := h
            obtain ⟨h34, h⟩ := h
            refine r_iast n32 dX12_stone_53 h31 h33 h28 h34 ?_
            replace h := h _ rfl
            generalize upA H30 ((H30 (v0 : Int).toNat 11) : Int).toNat (up1 (H30 ((H30 (v0 : Int).toNat 11) : Int).toNat) (v1 : Int).toNat v3) = H35 at h ⊢
            refine r_aload_n 0 dX12_stone_54 rfl rfl ?_
            refine r_getf cls12 12 dX12_stone_55 (by decide) fl_RX12_31 rfl h23 h24 ?_
            refine r_iload_n 1 dX12_stone_58 rfl rfl ?_
            refine r_iconst dX12_stone_59 (by decide) (by decide) ?_
            obtain ⟨h36, h⟩ := h
            obtain ⟨n37, h⟩ := h
            obtain ⟨h38, h⟩ := h
            obtain ⟨h39, h⟩ := h
            refine r_iast n37 dX12_stone_60 h36 h38 h28 h39 ?_
            replace h := h _ rfl
            generalize upA H35 ((H35 (v0 : Int).toNat 12) : Int).toNat (up1 (H35 ((H35 (v0 : Int).toNat 12) : Int).toNat) (v1 : Int).toNat 0) = H40 at h ⊢
            refine r_aload_n 0 dX12_stone_61 rfl rfl ?_
            refine r_getf cls12 13 dX12_stone_62 (by decide) fl_RX12_34 rfl h23 h24 ?_
            refine r_iload_n 1 dX12_stone_65 rfl rfl ?_
            refine r_iconst dX12_stone_66 (by decide) (by decide) ?_
            obtain ⟨h41, h⟩ := h
            obtain ⟨n42, h⟩ := h
            obtain ⟨h43, h⟩ := h
            obtain ⟨h44, h⟩ := h
            refine r_iast n42 dX12_stone_67 h41 h43 h28 h44 ?_
            replace h := h _ rfl
            generalize upA H40 ((H40 (v0 : Int).toNat 13) : Int).toNat (up1 (H40 ((H40 (v0 : Int).toNat 13) : Int).toNat) (v1 : Int).toNat 0) = H45 at h ⊢
            refine r_aload_n 0 dX12_stone_68 rfl rfl ?_
            refine r_getf cls12 14 dX12_stone_69 (by decide) fl_RX12_37 rfl h23 h24 ?_
            refine r_iload_n 1 dX12_stone_72 rfl rfl ?_
            refine r_iconst dX12_stone_73 (by decide) (by decide) ?_
            obtain ⟨h46, h⟩ := h
            obtain ⟨n47, h⟩ := h
            obtain ⟨h48, h⟩ := h
            obtain ⟨h49, h⟩ := h
            refine r_iast n47 dX12_stone_74 h46 h48 h28 h49 ?_
            replace h := h _ rfl
            generalize upA H45 ((H45 (v0 : Int).toNat 14) : Int).toNat (up1 (H45 ((H45 (v0 : Int).toNat 14) : Int).toNat) (v1 : Int).toNat 0) = H50 at h ⊢
            refine r_iconst dX12_stone_75 (by decide) (by decide) ?_
            refine r_istore dX12_stone_76 (by decide) rfl ?_
            refine Fr.fewer [1, 2, 0] rfl ?_
            exact h
          · replace h := h.2 c22
            refine r_aload_n 0 dX12_stone_34 rfl rfl ?_
            refine r_iconst dX12_stone_35 (by decide) (by decide) ?_
            obtain ⟨h51, h⟩ := h
            obtain ⟨h52, h⟩ := h
            refine r_invV (M := mX12_stone) (As := [(0, 2)]) (st := []) (X := v0) (mc := 0) (ms := 0) (fc := 0) (fs := 0) h ok_X12_is cls12 im_X12_is se_X12_is ml_RX12_181 dX12_stone_36 rfl h51 h52 (Nat.le_of_ble_eq_true rfl) rfl ?_
            rintro r K1 H53 ⟨rfl, x54, rfl, h⟩ -
            show Fr mX12_stone (d + 1) 0 0 none 39 [(0, (2, v0)), (1, (0, v1)), (2, (0, v2)), (3, (0, v3))] [(0, x54)] _ H53 _
            obtain ⟨h55, h⟩ := h
            exact r_zret dX12_stone_39 rfl h55 ⟨rfl, _, rfl, h⟩
  · replace h := h.2 c3
    refine r_aload_n 0 dX12_stone_7 rfl rfl ?_
    refine r_iconst dX12_stone_8 (by decide) (by decide) ?_
    obtain ⟨h56, h⟩ := h
    obtain ⟨h57, h⟩ := h
    refine r_invV (M := mX12_stone) (As := [(0, 1)]) (st := []) (X := v0) (mc := 0) (ms := 0) (fc := 0) (fs := 0) h ok_X12_is cls12 im_X12_is se_X12_is ml_RX12_181 dX12_stone_9 rfl h56 h57 (Nat.le_of_ble_eq_true rfl) rfl ?_
    rintro r K1 H58 ⟨rfl, x59, rfl, h⟩ -
    show Fr mX12_stone (d + 1) 0 0 none 12 [(0, (2, v0)), (1, (0, v1)), (2, (0, v2)), (3, (0, v3))] [(0, x59)] _ H58 _
    obtain ⟨h60, h⟩ := h
    exact r_zret dX12_stone_12 rfl h60 ⟨rfl, _, rfl, h⟩
set_option maxRecDepth 20000 in
theorem bX12_stone_78 {d : Nat} {K : Shp} {H : Mem} {q : Int → Mem → Prop} {v0 v1 v4 : Int} (h : ((¬ (v4 : Int) < 100 → ((0 : Int) ≤ v0) ∧ (K[(v0 : Int).toNat]? = some (12, 51)) ∧ Ci mX12_is d [(2, v0), (0, 0)] K H (fun x5 H4 => ((x5 : Int) = 0 ∨ (x5 : Int) = 1) ∧ q x5 H4)) ∧ ((v4 : Int) < 100 → ((0 : Int) ≤ v0) ∧ (K[(v0 : Int).toNat]? = some (12, 51)) ∧ (inI (100 * v1)) ∧ (inI ((100 * v1) + v4)) ∧ ((0 : Int) ≤ (H (v0 : Int).toNat 15)) ∧ ∃ n12 : Nat, (K[((H (v0 : Int).toNat 15) : Int).toNat]? = some (20, n12)) ∧ ((0 : Int) ≤ ((100 * v1) + v4)) ∧ ((((100 * v1) + v4) : Int) < n12) ∧ ∀ H16 : Mem, H16 = upA H ((H (v0 : Int).toNat 15) : Int).toNat (up1 (H ((H (v0 : Int).toNat 15) : Int).toNat) (((100 * v1) + v4) : Int).toNat 0) → (inI (v4 + 1)) ∧ FX12_stone_78 d K H16 q (v0) (v1) ((v4 + 1))))) : FX12_stone_78 d K H q (v0) (v1) (v4) := by
  unfold FX12_stone_78
  refine r_iload 2 dX12_stone_78 rfl ?_
  refine r_bipush dX12_stone_80 (by decide) (by decide) ?_
  refine r_icmp_ge (tgt := 104) dX12_stone_82 (by decide) (fun c1 => ?_) (fun c1 => ?_)
  · replace h := h.1 c1
    refine r_aload_n 0 dX12_stone_104 rfl rfl ?_
    refine r_iconst dX12_stone_105 (by decide) (by decide) ?_
    obtain ⟨h2, h⟩ := h
    obtain ⟨h3, h⟩ := h
    refine r_invV (M := mX12_stone) (As := [(0, 0)]) (st := []) (X := v0) (mc := 0) (ms := 0) (fc := 0) (fs := 0) h ok_X12_is cls12 im_X12_is se_X12_is ml_RX12_181 dX12_stone_106 rfl h2 h3 (Nat.le_of_ble_eq_true rfl) rfl ?_
    rintro r K1 H4 ⟨rfl, x5, rfl, h⟩ -
    show Fr mX12_stone (d + 1) 0 0 none 109 [(0, (2, v0)), (1, (0, v1)), (4, (0, v4))] [(0, x5)] _ H4 _
    obtain ⟨h6, h⟩ := h
    exact r_zret dX12_stone_109 rfl h6 ⟨rfl, _, rfl, h⟩
  · replace h := h.2 c1
    refine r_aload_n 0 dX12_stone_85 rfl rfl ?_
    obtain ⟨h7, h⟩ := h
    obtain ⟨h8, h⟩ := h
    refine r_getf cls12 15 dX12_stone_86 (by decide) fl_RX12_40 rfl h7 h8 ?_
    refine r_bipush dX12_stone_89 (by decide) (by decide) ?_
    refine r_iload_n 1 dX12_stone_91 rfl rfl ?_
    obtain ⟨h9, h⟩ := h
    refine r_imul dX12_stone_92 h9 ?_
    refine r_iload 2 dX12_stone_93 rfl ?_
    obtain ⟨h10, h⟩ := h
    refine r_iadd dX12_stone_95 h10 ?_
    refine r_iconst dX12_stone_96 (by decide) (by decide) ?_
    obtain ⟨h11, h⟩ := h
    obtain ⟨n12, h⟩ := h
    obtain ⟨h13, h⟩ := h
    obtain ⟨h14, h⟩ := h
    obtain ⟨h15, h⟩ := h
    refine r_iast n12 dX12_stone_97 h11 h13 h14 h15 ?_
    replace h := h _ rfl
    generalize upA H ((H (v0 : Int).toNat 15) : Int).toNat (up1 (H ((H (v0 : Int).toNat 15) : Int).toNat) (((100 * v1) + v4) : Int).toNat 0) = H16 at h ⊢
    obtain ⟨h17, h⟩ := h
    refine r_iinc 2 dX12_stone_98 (by decide) rfl h17 rfl ?_
    refine r_goto (tgt := 78) dX12_stone_101 (by decide) ?_
    refine Fr.fewer [1, 2, 0] rfl ?_
    exact h
set_option maxRecDepth 20000 in
theorem eX12_stone {d : Nat} {K : Shp} {H : Mem} {q : Int → Mem → Prop} {v0 v1 v2 v3 : Int} (h : inI v1 → inI v2 → inI v3 → Rng K H → FX12_stone_0 d K H q v0 v1 v2 v3) : Ci mX12_stone (d + 1) [(2, v0), (0, v1), (0, v2), (0, v3)] K H q := Call.of rfl (Nat.le_of_ble_eq_true rfl) (fun o r => h (o (0, v1) (by simp)) (o (0, v2) (by simp)) (o (0, v3) (by simp)) r)
def FX12_band_0 (d : Nat) (K : Shp) (H : Mem) (q : Int → Mem → Prop) (v0 : Int) (v1 : Int) (v2 : Int) (v3 : Int) (v4 : Int) : Prop := Fr mX12_band (d + 1) 0 0 none 0 [(0, (2, v0)), (1, (0, v1)), (2, (0, v2)), (3, (0, v3)), (4, (0, v4))] [] K H (qi K q)
def FX12_band_67 (d : Nat) (K : Shp) (H : Mem) (q : Int → Mem → Prop) (v0 : Int) (v1 : Int) (v2 : Int) (v3 : Int) (v4 : Int) (v5 : Int) : Prop := Fr mX12_band (d + 1) 0 0 none 67 [(0, (2, v0)), (1, (0, v1)), (2, (0, v2)), (3, (0, v3)), (4, (0, v4)), (5, (0, v5))] [] K H (qi K q)
set_option maxRecDepth 20000 in
theorem bX12_band_0 {d : Nat} {K : Shp} {H : Mem} {q : Int → Mem → Prop} {v0 v1 v2 v3 v4 : Int} (h : Ci mX12_isSection d [(0, v1)] K H (fun x2 H1 => ((¬ (x2 : Int) = 0 → (((v2 : Int) < 1 → ((0 : Int) ≤ v0) ∧ (K[(v0 : Int).toNat]? = some (12, 51)) ∧ Ci mX12_refuse d [(2, v0), (0, 2)] K H1 (fun x8 H7 => q x8 H7)) ∧ (¬ (v2 : Int) < 1 → ((¬ (v2 : Int) ≤ 100 → ((0 : Int) ≤ v0) ∧ (K[(v0 : Int).toNat]? = some (12, 51)) ∧ Ci mX12_refuse d [(2, v0), (0, 2)] K H1 (fun x13 H12 => q x13 H12)) ∧ ((v2 : Int) ≤ 100 → (((v3 : Int) < 0 → ((0 : Int) ≤ v0) ∧ (K[(v0 : Int).toNat]? = some (12, 51)) ∧ Ci mX12_refuse d [(2, v0), (0, 2)] K H1 (fun x18 H17 => q x18 H17)) ∧ (¬ (v3 : Int) < 0 → ((¬ (v4 : Int) ≤ 100 → ((0 : Int) ≤ v0) ∧ (K[(v0 : Int).toNat]? = some (12, 51)) ∧ Ci mX12_refuse d [(2, v0), (0, 2)] K H1 (fun x23 H22 => q x23 H22)) ∧ ((v4 : Int) ≤ 100 → (((v3 : Int) < v4 → ((0 : Int) ≤ v0) ∧ (K[(v0 : Int).toNat]? = some (12, 51)) ∧ ((0 : Int) ≤ (H1 (v0 : Int).toNat 12)) ∧ ∃ n28 : Nat, (K[((H1 (v0 : Int).toNat 12) : Int).toNat]? = some (20, n28)) ∧ ((0 : Int) ≤ v1) ∧ ((v1 : Int) < n28) ∧ ((¬ ((H1 ((H1 (v0 : Int).toNat 12) : Int).toNat (v1 : Int).toNat) : Int) = 8 → FX12_band_67 d K H1 q (v0) (v1) (v2) (v3) (v4) (v3)) ∧ (((H1 ((H1 (v0 : Int).toNat 12) : Int).toNat (v1 : Int).toNat) : Int) = 8 → Ci mX12_refuse d [(2, v0), (0, 3)] K H1 (fun x34 H33 => q x34 H33)))) ∧ (¬ (v3 : Int) < v4 → ((0 : Int) ≤ v0) ∧ (K[(v0 : Int).toNat]? = some (12, 51)) ∧ Ci mX12_refuse d [(2, v0), (0, 2)] K H1 (fun x38 H37 => q x38 H37)))))))))))) ∧ ((x2 : Int) = 0 → ((0 : Int) ≤ v0) ∧ (K[(v0 : Int).toNat]? = some (12, 51)) ∧ Ci mX12_refuse d [(2, v0), (0, 1)] K H1 (fun x42 H41 => q x42 H41))))) : FX12_band_0 d K H q (v0) (v1) (v2) (v3) (v4) := by
  unfold FX12_band_0
  refine r_iload_n 1 dX12_band_0 rfl rfl ?_
  refine r_invS (M := mX12_band) (As := [(0, v1)]) (st := []) (mc := 0) (ms := 0) (fc := 0) (fs := 0) h ok_X12_isSection sm_X12_isSection ml_RX12_177 dX12_band_1 rfl (Nat.le_of_ble_eq_true rfl) rfl ?_
  rintro r K1 H1 ⟨rfl, x2, rfl, h⟩ -
  show Fr mX12_band (d + 1) 0 0 none 4 [(0, (2, v0)), (1, (0, v1)), (2, (0, v2)), (3, (0, v3)), (4, (0, v4))] [(0, x2)] _ H1 _
  refine r_if_ne (tgt := 13) dX12_band_4 (by decide) (fun c3 => ?_) (fun c3 => ?_)
  · replace h := h.1 c3
    refine r_iload_n 2 dX12_band_13 rfl rfl ?_
    refine r_iconst dX12_band_14 (by decide) (by decide) ?_
    refine r_icmp_lt (tgt := 41) dX12_band_15 (by decide) (fun c4 => ?_) (fun c4 => ?_)
    · replace h := h.1 c4
      refine r_aload_n 0 dX12_band_41 rfl rfl ?_
      refine r_iconst dX12_band_42 (by decide) (by decide) ?_
      obtain ⟨h5, h⟩ := h
      obtain ⟨h6, h⟩ := h
      refine r_invV (M := mX12_band) (As := [(0, 2)]) (st := []) (X := v0) (mc := 0) (ms := 0) (fc := 0) (fs := 0) h ok_X12_refuse cls12 im_X12_refuse se_X12_refuse ml_RX12_184 dX12_band_43 rfl h5 h6 (Nat.le_of_ble_eq_true rfl) rfl ?_
      rintro r K1 H7 ⟨rfl, x8, rfl, h⟩ -
      show Fr mX12_band (d + 1) 0 0 none 46 [(0, (2, v0)), (1, (0, v1)), (2, (0, v2)), (3, (0, v3)), (4, (0, v4))] [(0, x8)] _ H7 _
      exact r_iret dX12_band_46 rfl ⟨rfl, _, rfl, h⟩
    · replace h := h.2 c4
      refine r_iload_n 2 dX12_band_18 rfl rfl ?_
      refine r_bipush dX12_band_19 (by decide) (by decide) ?_
      refine r_icmp_gt (tgt := 41) dX12_band_21 (by decide) (fun c9 => ?_) (fun c9 => ?_)
      · replace h := h.1 c9
        refine r_aload_n 0 dX12_band_41 rfl rfl ?_
        refine r_iconst dX12_band_42 (by decide) (by decide) ?_
        obtain ⟨h10, h⟩ := h
        obtain ⟨h11, h⟩ := h
        refine r_invV (M := mX12_band) (As := [(0, 2)]) (st := []) (X := v0) (mc := 0) (ms := 0) (fc := 0) (fs := 0) h ok_X12_refuse cls12 im_X12_refuse se_X12_refuse ml_RX12_184 dX12_band_43 rfl h10 h11 (Nat.le_of_ble_eq_true rfl) rfl ?_
        rintro r K1 H12 ⟨rfl, x13, rfl, h⟩ -
        show Fr mX12_band (d + 1) 0 0 none 46 [(0, (2, v0)), (1, (0, v1)), (2, (0, v2)), (3, (0, v3)), (4, (0, v4))] [(0, x13)] _ H12 _
        exact r_iret dX12_band_46 rfl ⟨rfl, _, rfl, h⟩
      · replace h := h.2 c9
        refine r_iload_n 3 dX12_band_24 rfl rfl ?_
        refine r_if_lt (tgt := 41) dX12_band_25 (by decide) (fun c14 => ?_) (fun c14 => ?_)
        · replace h := h.1 c14
          refine r_aload_n 0 dX12_band_41 rfl rfl ?_
          refine r_iconst dX12_band_42 (by decide) (by decide) ?_
          obtain ⟨h15, h⟩ := h
          obtain ⟨h16, h⟩ := h
          refine r_invV (M := mX12_band) (As := [(0, 2)]) (st := []) (X := v0) (mc := 0) (ms := 0) (fc := 0) (fs := 0) h ok_X12_refuse cls12 im_X12_refuse se_X12_refuse ml_RX12_184 dX12_band_43 rfl h15 h16 (Nat.le_of_ble_eq_true rfl) rfl ?_
          rintro r K1 H17 ⟨rfl, x18, rfl, h⟩ -
          show Fr mX12_band (d + 1) 0 0 none 46 [(0, (2, v0)), (1, (0, v1)), (2, (0, v2)), (3, (0, v3)), (4, (0, v4))] [(0, x18)] _ H17 _
          exact r_iret dX12_band_46 rfl ⟨rfl, _, rfl, h⟩
        · replace h := h.2 c14
          refine r_iload 4 dX12_band_28 rfl ?_
          refine r_bipush dX12_band_30 (by decide) (by decide) ?_
          refine r_icmp_gt (tgt := 41) dX12_band_32 (by decide) (fun c19 => ?_) (fun c19 => ?_)
          · replace h := h.1 c19
            refine r_aload_n 0 dX12_band_41 rfl rfl ?_
            refine r_iconst dX12_band_42 (by decide) (by decide) ?_
            obtain ⟨h20, h⟩ := h
            obtain ⟨h21, h⟩ := h
            refine r_invV (M := mX12_band) (As := [(0, 2)]) (st := []) (X := v0) (mc := 0) (ms := 0) (fc := 0) (fs := 0) h ok_X12_refuse cls12 im_X12_refuse se_X12_refuse ml_RX12_184 dX12_band_43 rfl h20 h21 (Nat.le_of_ble_eq_true rfl) rfl ?_
            rintro r K1 H22 ⟨rfl, x23, rfl, h⟩ -
            show Fr mX12_band (d + 1) 0 0 none 46 [(0, (2, v0)), (1, (0, v1)), (2, (0, v2)), (3, (0, v3)), (4, (0, v4))] [(0, x23)] _ H22 _
            exact r_iret dX12_band_46 rfl ⟨rfl, _, rfl, h⟩
          · replace h := h.2 c19
            refine r_iload_n 3 dX12_band_35 rfl rfl ?_
            refine r_iload 4 dX12_band_36 rfl ?_
            refine r_icmp_lt (tgt := 47) dX12_band_38 (by decide) (fun c24 => ?_) (fun c24 => ?_)
            · replace h := h.1 c24
              refine r_aload_n 0 dX12_band_47 rfl rfl ?_
              obtain ⟨h25, h⟩ := h
              obtain ⟨h26, h⟩ := h
              refine r_getf cls12 12 dX12_band_48 (by decide) fl_RX12_31 rfl h25 h26 ?_
              refine r_iload_n 1 dX12_band_51 rfl rfl ?_
              obtain ⟨h27, h⟩ := h
              obtain ⟨n28, h⟩ := h
              obtain ⟨h29, h⟩ := h
              obtain ⟨h30, h⟩ := h
              obtain ⟨h31, h⟩ := h
              refine r_iald n28 dX12_band_52 h27 h29 h30 h31 ?_
              refine r_bipush dX12_band_53 (by decide) (by decide) ?_
              refine r_icmp_ne (tgt := 64) dX12_band_55 (by decide) (fun c32 => ?_) (fun c32 => ?_)
              · replace h := h.1 c32
                refine r_iload_n 3 dX12_band_64 rfl rfl ?_
                refine r_istore dX12_band_65 (by decide) rfl ?_
                refine Fr.fewer [1, 2, 3, 4, 5, 0] rfl ?_
                exact h
              · replace h := h.2 c32
                refine r_aload_n 0 dX12_band_58 rfl rfl ?_
                refine r_iconst dX12_band_59 (by decide) (by decide) ?_
                refine r_invV (M := mX12_band) (As := [(0, 3)]) (st := []) (X := v0) (mc := 0) (ms := 0) (fc := 0) (fs := 0) h ok_X12_refuse cls12 im_X12_refuse se_X12_refuse ml_RX12_184 dX12_band_60 rfl h25 h26 (Nat.le_of_ble_eq_true rfl) rfl ?_
                rintro r K1 H33 ⟨rfl, x34, rfl, h⟩ -
                show Fr mX12_band (d + 1) 0 0 none 63 [(0, (2, v0)), (1, (0, v1)), (2, (0, v2)), (3, (0, v3)), (4, (0, v4))] [(0, x34)] _ H33 _
                exact r_iret dX12_band_63 rfl ⟨rfl, _, rfl, h⟩
            · replace h := h.2 c24
              refine r_aload_n 0 dX12_band_41 rfl rfl ?_
              refine r_iconst dX12_band_42 (by decide) (by decide) ?_
              obtain ⟨h35, h⟩ := h
              obtain ⟨h36, h⟩ := h
              refine r_invV (M := mX12_band) (As := [(0, 2)]) (st := []) (X := v0) (mc := 0) (ms := 0) (fc := 0) (fs := 0) h ok_X12_refuse cls12 im_X12_refuse se_X12_refuse ml_RX12_184 dX12_band_43 rfl h35 h36 (Nat.le_of_ble_eq_true rfl) rfl ?_
              rintro r K1 H37 ⟨rfl, x38, rfl, h⟩ -
              show Fr mX12_band (d + 1) 0 0 none 46 [(0, (2, v0)), (1, (0, v1)), (2, (0, v2)), (3, (0, v3)), (4, (0, v4))] [(0, x38)] _ H37 _
              exact r_iret dX12_band_46 rfl ⟨rfl, _, rfl, h⟩
  · replace h := h.2 c3
    refine r_aload_n 0 dX12_band_7 rfl rfl ?_
    refine r_iconst dX12_band_8 (by decide) (by decide) ?_
    obtain ⟨h39, h⟩ := h
    obtain ⟨h40, h⟩ := h
    refine r_invV (M := mX12_band) (As := [(0, 1)]) (st := []) (X := v0) (mc := 0) (ms := 0) (fc := 0) (fs := 0) h ok_X12_refuse cls12 im_X12_refuse se_X12_refuse ml_RX12_184 dX12_band_9 rfl h39 h40 (Nat.le_of_ble_eq_true rfl) rfl ?_
    rintro r K1 H41 ⟨rfl, x42, rfl, h⟩ -
    show Fr mX12_band (d + 1) 0 0 none 12 [(0, (2, v0)), (1, (0, v1)), (2, (0, v2)), (3, (0, v3)), (4, (0, v4))] [(0, x42)] _ H41 _
    exact r_iret dX12_band_12 rfl ⟨rfl, _, rfl, h⟩
set_option maxRecDepth 20000 in
theorem bX12_band_67 {d : Nat} {K : Shp} {H : Mem} {q : Int → Mem → Prop} {v0 v1 v2 v3 v4 v5 : Int} (h : ((¬ (v5 : Int) < v4 → ((0 : Int) ≤ v0) ∧ (K[(v0 : Int).toNat]? = some (12, 51)) ∧ ((0 : Int) ≤ (H (v0 : Int).toNat 14)) ∧ ∃ n5 : Nat, (K[((H (v0 : Int).toNat 14) : Int).toNat]? = some (20, n5)) ∧ ((0 : Int) ≤ v1) ∧ ((v1 : Int) < n5) ∧ (inI (v4 - v3)) ∧ (inI (v2 * (v4 - v3))) ∧ (inI ((H ((H (v0 : Int).toNat 14) : Int).toNat (v1 : Int).toNat) + (v2 * (v4 - v3)))) ∧ ∀ H12 : Mem, H12 = upA H ((H (v0 : Int).toNat 14) : Int).toNat (up1 (H ((H (v0 : Int).toNat 14) : Int).toNat) (v1 : Int).toNat ((H ((H (v0 : Int).toNat 14) : Int).toNat (v1 : Int).toNat) + (v2 * (v4 - v3)))) → ((0 : Int) ≤ (H12 (v0 : Int).toNat 12)) ∧ ∃ n14 : Nat, (K[((H12 (v0 : Int).toNat 12) : Int).toNat]? = some (20, n14)) ∧ ((v1 : Int) < n14) ∧ (inI ((H12 ((H12 (v0 : Int).toNat 12) : Int).toNat (v1 : Int).toNat) + 1)) ∧ ∀ H18 : Mem, H18 = upA H12 ((H12 (v0 : Int).toNat 12) : Int).toNat (up1 (H12 ((H12 (v0 : Int).toNat 12) : Int).toNat) (v1 : Int).toNat ((H12 ((H12 (v0 : Int).toNat 12) : Int).toNat (v1 : Int).toNat) + 1)) → ∀ H19 : Mem, H19 = upA H18 (v0 : Int).toNat (up1 (H18 (v0 : Int).toNat) 0 0) → ((0 : Int) ≤ (H19 (v0 : Int).toNat 12)) ∧ ∃ n21 : Nat, (K[((H19 (v0 : Int).toNat 12) : Int).toNat]? = some (20, n21)) ∧ ((v1 : Int) < n21) ∧ (inI ((H19 ((H19 (v0 : Int).toNat 12) : Int).toNat (v1 : Int).toNat) - 1)) ∧ q ((H19 ((H19 (v0 : Int).toNat 12) : Int).toNat (v1 : Int).toNat) - 1) H19) ∧ ((v5 : Int) < v4 → ((0 : Int) ≤ v0) ∧ (K[(v0 : Int).toNat]? = some (12, 51)) ∧ (inI (100 * v1)) ∧ (inI ((100 * v1) + v5)) ∧ ((0 : Int) ≤ (H (v0 : Int).toNat 15)) ∧ ∃ n30 : Nat, (K[((H (v0 : Int).toNat 15) : Int).toNat]? = some (20, n30)) ∧ ((0 : Int) ≤ ((100 * v1) + v5)) ∧ ((((100 * v1) + v5) : Int) < n30) ∧ (inI ((H ((H (v0 : Int).toNat 15) : Int).toNat (((100 * v1) + v5) : Int).toNat) + v2)) ∧ ∀ H35 : Mem, H35 = upA H ((H (v0 : Int).toNat 15) : Int).toNat (up1 (H ((H (v0 : Int).toNat 15) : Int).toNat) (((100 * v1) + v5) : Int).toNat ((H ((H (v0 : Int).toNat 15) : Int).toNat (((100 * v1) + v5) : Int).toNat) + v2)) → (inI (v5 + 1)) ∧ FX12_band_67 d K H35 q (v0) (v1) (v2) (v3) (v4) ((v5 + 1))))) : FX12_band_67 d K H q (v0) (v1) (v2) (v3) (v4) (v5) := by
  unfold FX12_band_67
  refine r_iload 5 dX12_band_67 rfl ?_
  refine r_iload 4 dX12_band_69 rfl ?_
  refine r_icmp_ge (tgt := 96) dX12_band_71 (by decide) (fun c1 => ?_) (fun c1 => ?_)
  · replace h := h.1 c1
    refine r_aload_n 0 dX12_band_96 rfl rfl ?_
    obtain ⟨h2, h⟩ := h
    obtain ⟨h3, h⟩ := h
    refine r_getf cls12 14 dX12_band_97 (by decide) fl_RX12_37 rfl h2 h3 ?_
    refine r_iload_n 1 dX12_band_100 rfl rfl ?_
    refine r_dup2 dX12_band_101 (show (0 : Nat) ≠ 1 by decide) (show (2 : Nat) ≠ 1 by decide) ?_
    obtain ⟨h4, h⟩ := h
    obtain ⟨n5, h⟩ := h
    obtain ⟨h6, h⟩ := h
    obtain ⟨h7, h⟩ := h
    obtain ⟨h8, h⟩ := h
    refine r_iald n5 dX12_band_102 h4 h6 h7 h8 ?_
    refine r_iload_n 2 dX12_band_103 rfl rfl ?_
    refine r_iload 4 dX12_band_104 rfl ?_
    refine r_iload_n 3 dX12_band_106 rfl rfl ?_
    obtain ⟨h9, h⟩ := h
    refine r_isub dX12_band_107 h9 ?_
    obtain ⟨h10, h⟩ := h
    refine r_imul dX12_band_108 h10 ?_
    obtain ⟨h11, h⟩ := h
    refine r_iadd dX12_band_109 h11 ?_
    refine r_iast n5 dX12_band_110 h4 h6 h7 h8 ?_
    replace h := h _ rfl
    generalize upA H ((H (v0 : Int).toNat 14) : Int).toNat (up1 (H ((H (v0 : Int).toNat 14) : Int).toNat) (v1 : Int).toNat ((H ((H (v0 : Int).toNat 14) : Int).toNat (v1 : Int).toNat) + (v2 * (v4 - v3)))) = H12 at h ⊢
    refine r_aload_n 0 dX12_band_111 rfl rfl ?_
    refine r_getf cls12 12 dX12_band_112 (by decide) fl_RX12_31 rfl h2 h3 ?_
    refine r_iload_n 1 dX12_band_115 rfl rfl ?_
    refine r_dup2 dX12_band_116 (show (0 : Nat) ≠ 1 by decide) (show (2 : Nat) ≠ 1 by decide) ?_
    obtain ⟨h13, h⟩ := h
    obtain ⟨n14, h⟩ := h
    obtain ⟨h15, h⟩ := h
    obtain ⟨h16, h⟩ := h
    refine r_iald n14 dX12_band_117 h13 h15 h7 h16 ?_
    refine r_iconst dX12_band_118 (by decide) (by decide) ?_
    obtain ⟨h17, h⟩ := h
    refine r_iadd dX12_band_119 h17 ?_
    refine r_iast n14 dX12_band_120 h13 h15 h7 h16 ?_
    replace h := h _ rfl
    generalize upA H12 ((H12 (v0 : Int).toNat 12) : Int).toNat (up1 (H12 ((H12 (v0 : Int).toNat 12) : Int).toNat) (v1 : Int).toNat ((H12 ((H12 (v0 : Int).toNat 12) : Int).toNat (v1 : Int).toNat) + 1)) = H18 at h ⊢
    refine r_aload_n 0 dX12_band_121 rfl rfl ?_
    refine r_iconst dX12_band_122 (by decide) (by decide) ?_
    refine r_putf cls12 0 dX12_band_123 (by decide) rfl fl_RX12_89 rfl h2 h3 (fun o => o) ?_
    replace h := h _ rfl
    generalize upA H18 (v0 : Int).toNat (up1 (H18 (v0 : Int).toNat) 0 0) = H19 at h ⊢
    refine r_aload_n 0 dX12_band_126 rfl rfl ?_
    refine r_getf cls12 12 dX12_band_127 (by decide) fl_RX12_31 rfl h2 h3 ?_
    refine r_iload_n 1 dX12_band_130 rfl rfl ?_
    obtain ⟨h20, h⟩ := h
    obtain ⟨n21, h⟩ := h
    obtain ⟨h22, h⟩ := h
    obtain ⟨h23, h⟩ := h
    refine r_iald n21 dX12_band_131 h20 h22 h7 h23 ?_
    refine r_iconst dX12_band_132 (by decide) (by decide) ?_
    obtain ⟨h24, h⟩ := h
    refine r_isub dX12_band_133 h24 ?_
    exact r_iret dX12_band_134 rfl ⟨rfl, _, rfl, h⟩
  · replace h := h.2 c1
    refine r_aload_n 0 dX12_band_74 rfl rfl ?_
    obtain ⟨h25, h⟩ := h
    obtain ⟨h26, h⟩ := h
    refine r_getf cls12 15 dX12_band_75 (by decide) fl_RX12_40 rfl h25 h26 ?_
    refine r_bipush dX12_band_78 (by decide) (by decide) ?_
    refine r_iload_n 1 dX12_band_80 rfl rfl ?_
    obtain ⟨h27, h⟩ := h
    refine r_imul dX12_band_81 h27 ?_
    refine r_iload 5 dX12_band_82 rfl ?_
    obtain ⟨h28, h⟩ := h
    refine r_iadd dX12_band_84 h28 ?_
    refine r_dup2 dX12_band_85 (show (0 : Nat) ≠ 1 by decide) (show (2 : Nat) ≠ 1 by decide) ?_
    obtain ⟨h29, h⟩ := h
    obtain ⟨n30, h⟩ := h
    obtain ⟨h31, h⟩ := h
    obtain ⟨h32, h⟩ := h
    obtain ⟨h33, h⟩ := h
    refine r_iald n30 dX12_band_86 h29 h31 h32 h33 ?_
    refine r_iload_n 2 dX12_band_87 rfl rfl ?_
    obtain ⟨h34, h⟩ := h
    refine r_iadd dX12_band_88 h34 ?_
    refine r_iast n30 dX12_band_89 h29 h31 h32 h33 ?_
    replace h := h _ rfl
    generalize upA H ((H (v0 : Int).toNat 15) : Int).toNat (up1 (H ((H (v0 : Int).toNat 15) : Int).toNat) (((100 * v1) + v5) : Int).toNat ((H ((H (v0 : Int).toNat 15) : Int).toNat (((100 * v1) + v5) : Int).toNat) + v2)) = H35 at h ⊢
    obtain ⟨h36, h⟩ := h
    refine r_iinc 5 dX12_band_90 (by decide) rfl h36 rfl ?_
    refine r_goto (tgt := 67) dX12_band_93 (by decide) ?_
    refine Fr.fewer [1, 2, 3, 4, 5, 0] rfl ?_
    exact h
set_option maxRecDepth 20000 in
theorem eX12_band {d : Nat} {K : Shp} {H : Mem} {q : Int → Mem → Prop} {v0 v1 v2 v3 v4 : Int} (h : inI v1 → inI v2 → inI v3 → inI v4 → Rng K H → FX12_band_0 d K H q v0 v1 v2 v3 v4) : Ci mX12_band (d + 1) [(2, v0), (0, v1), (0, v2), (0, v3), (0, v4)] K H q := Call.of rfl (Nat.le_of_ble_eq_true rfl) (fun o r => h (o (0, v1) (by simp)) (o (0, v2) (by simp)) (o (0, v3) (by simp)) (o (0, v4) (by simp)) r)
def FX12_rod_0 (d : Nat) (K : Shp) (H : Mem) (q : Int → Mem → Prop) (v0 : Int) (v1 : Int) (v2 : Int) (v3 : Int) : Prop := Fr mX12_rod (d + 1) 0 0 none 0 [(0, (2, v0)), (1, (0, v1)), (2, (0, v2)), (3, (0, v3))] [] K H (qi K q)
set_option maxRecDepth 20000 in
theorem bX12_rod_0 {d : Nat} {K : Shp} {H : Mem} {q : Int → Mem → Prop} {v0 v1 v2 v3 : Int} (h : Ci mX12_isSection d [(0, v1)] K H (fun x2 H1 => ((¬ (x2 : Int) = 0 → (((v2 : Int) < 0 → ((0 : Int) ≤ v0) ∧ (K[(v0 : Int).toNat]? = some (12, 51)) ∧ Ci mX12_refuse d [(2, v0), (0, 2)] K H1 (fun x8 H7 => q x8 H7)) ∧ (¬ (v2 : Int) < 0 → ((¬ (v2 : Int) ≤ 100 → ((0 : Int) ≤ v0) ∧ (K[(v0 : Int).toNat]? = some (12, 51)) ∧ Ci mX12_refuse d [(2, v0), (0, 2)] K H1 (fun x13 H12 => q x13 H12)) ∧ ((v2 : Int) ≤ 100 → (((v3 : Int) < 0 → ((0 : Int) ≤ v0) ∧ (K[(v0 : Int).toNat]? = some (12, 51)) ∧ Ci mX12_refuse d [(2, v0), (0, 2)] K H1 (fun x18 H17 => q x18 H17)) ∧ (¬ (v3 : Int) < 0 → (((v3 : Int) ≤ 200 → ((0 : Int) ≤ v0) ∧ (K[(v0 : Int).toNat]? = some (12, 51)) ∧ ((0 : Int) ≤ (H1 (v0 : Int).toNat 13)) ∧ ∃ n23 : Nat, (K[((H1 (v0 : Int).toNat 13) : Int).toNat]? = some (20, n23)) ∧ ((0 : Int) ≤ v1) ∧ ((v1 : Int) < n23) ∧ ((¬ ((H1 ((H1 (v0 : Int).toNat 13) : Int).toNat (v1 : Int).toNat) : Int) = 6 → (inI (6 * v1)) ∧ (inI ((6 * v1) + (H1 ((H1 (v0 : Int).toNat 13) : Int).toNat (v1 : Int).toNat))) ∧ ((0 : Int) ≤ (H1 (v0 : Int).toNat 16)) ∧ ∃ n31 : Nat, (K[((H1 (v0 : Int).toNat 16) : Int).toNat]? = some (20, n31)) ∧ ((0 : Int) ≤ ((6 * v1) + (H1 ((H1 (v0 : Int).toNat 13) : Int).toNat (v1 : Int).toNat))) ∧ ((((6 * v1) + (H1 ((H1 (v0 : Int).toNat 13) : Int).toNat (v1 : Int).toNat)) : Int) < n31) ∧ ∀ H35 : Mem, H35 = upA H1 ((H1 (v0 : Int).toNat 16) : Int).toNat (up1 (H1 ((H1 (v0 : Int).toNat 16) : Int).toNat) (((6 * v1) + (H1 ((H1 (v0 : Int).toNat 13) : Int).toNat (v1 : Int).toNat)) : Int).toNat v2) → ((0 : Int) ≤ (H35 (v0 : Int).toNat 13)) ∧ ∃ n37 : Nat, (K[((H35 (v0 : Int).toNat 13) : Int).toNat]? = some (20, n37)) ∧ ((v1 : Int) < n37) ∧ (inI ((6 * v1) + (H35 ((H35 (v0 : Int).toNat 13) : Int).toNat (v1 : Int).toNat))) ∧ ((0 : Int) ≤ (H35 (v0 : Int).toNat 17)) ∧ ∃ n42 : Nat, (K[((H35 (v0 : Int).toNat 17) : Int).toNat]? = some (20, n42)) ∧ ((0 : Int) ≤ ((6 * v1) + (H35 ((H35 (v0 : Int).toNat 13) : Int).toNat (v1 : Int).toNat))) ∧ ((((6 * v1) + (H35 ((H35 (v0 : Int).toNat 13) : Int).toNat (v1 : Int).toNat)) : Int) < n42) ∧ ∀ H46 : Mem, H46 = upA H35 ((H35 (v0 : Int).toNat 17) : Int).toNat (up1 (H35 ((H35 (v0 : Int).toNat 17) : Int).toNat) (((6 * v1) + (H35 ((H35 (v0 : Int).toNat 13) : Int).toNat (v1 : Int).toNat)) : Int).toNat v3) → ((0 : Int) ≤ (H46 (v0 : Int).toNat 13)) ∧ ∃ n48 : Nat, (K[((H46 (v0 : Int).toNat 13) : Int).toNat]? = some (20, n48)) ∧ ((v1 : Int) < n48) ∧ (inI ((H46 ((H46 (v0 : Int).toNat 13) : Int).toNat (v1 : Int).toNat) + 1)) ∧ ∀ H52 : Mem, H52 = upA H46 ((H46 (v0 : Int).toNat 13) : Int).toNat (up1 (H46 ((H46 (v0 : Int).toNat 13) : Int).toNat) (v1 : Int).toNat ((H46 ((H46 (v0 : Int).toNat 13) : Int).toNat (v1 : Int).toNat) + 1)) → ∀ H53 : Mem, H53 = upA H52 (v0 : Int).toNat (up1 (H52 (v0 : Int).toNat) 0 0) → ((0 : Int) ≤ (H53 (v0 : Int).toNat 13)) ∧ ∃ n55 : Nat, (K[((H53 (v0 : Int).toNat 13) : Int).toNat]? = some (20, n55)) ∧ ((v1 : Int) < n55) ∧ (inI ((H53 ((H53 (v0 : Int).toNat 13) : Int).toNat (v1 : Int).toNat) - 1)) ∧ q ((H53 ((H53 (v0 : Int).toNat 13) : Int).toNat (v1 : Int).toNat) - 1) H53) ∧ (((H1 ((H1 (v0 : Int).toNat 13) : Int).toNat (v1 : Int).toNat) : Int) = 6 → Ci mX12_refuse d [(2, v0), (0, 3)] K H1 (fun x60 H59 => q x60 H59)))) ∧ (¬ (v3 : Int) ≤ 200 → ((0 : Int) ≤ v0) ∧ (K[(v0 : Int).toNat]? = some (12, 51)) ∧ Ci mX12_refuse d [(2, v0), (0, 2)] K H1 (fun x64 H63 => q x64 H63)))))))))) ∧ ((x2 : Int) = 0 → ((0 : Int) ≤ v0) ∧ (K[(v0 : Int).toNat]? = some (12, 51)) ∧ Ci mX12_refuse d [(2, v0), (0, 1)] K H1 (fun x68 H67 => q x68 H67))))) : FX12_rod_0 d K H q (v0) (v1) (v2) (v3) := by
  unfold FX12_rod_0
  refine r_iload_n 1 dX12_rod_0 rfl rfl ?_
  refine r_invS (M := mX12_rod) (As := [(0, v1)]) (st := []) (mc := 0) (ms := 0) (fc := 0) (fs := 0) h ok_X12_isSection sm_X12_isSection ml_RX12_177 dX12_rod_1 rfl (Nat.le_of_ble_eq_true rfl) rfl ?_
  rintro r K1 H1 ⟨rfl, x2, rfl, h⟩ -
  show Fr mX12_rod (d + 1) 0 0 none 4 [(0, (2, v0)), (1, (0, v1)), (2, (0, v2)), (3, (0, v3))] [(0, x2)] _ H1 _
  refine r_if_ne (tgt := 13) dX12_rod_4 (by decide) (fun c3 => ?_) (fun c3 => ?_)
  · replace h := h.1 c3
    refine r_iload_n 2 dX12_rod_13 rfl rfl ?_
    refine r_if_lt (tgt := 34) dX12_rod_14 (by decide) (fun c4 => ?_) (fun c4 => ?_)
    · replace h := h.1 c4
      refine r_aload_n 0 dX12_rod_34 rfl rfl ?_
      refine r_iconst dX12_rod_35 (by decide) (by decide) ?_
      obtain ⟨h5, h⟩ := h
      obtain ⟨h6, h⟩ := h
      refine r_invV (M := mX12_rod) (As := [(0, 2)]) (st := []) (X := v0) (mc := 0) (ms := 0) (fc := 0) (fs := 0) h ok_X12_refuse cls12 im_X12_refuse se_X12_refuse ml_RX12_184 dX12_rod_36 rfl h5 h6 (Nat.le_of_ble_eq_true rfl) rfl ?_
      rintro r K1 H7 ⟨rfl, x8, rfl, h⟩ -
      show Fr mX12_rod (d + 1) 0 0 none 39 [(0, (2, v0)), (1, (0, v1)), (2, (0, v2)), (3, (0, v3))] [(0, x8)] _ H7 _
      exact r_iret dX12_rod_39 rfl ⟨rfl, _, rfl, h⟩
    · replace h := h.2 c4
      refine r_iload_n 2 dX12_rod_17 rfl rfl ?_
      refine r_bipush dX12_rod_18 (by decide) (by decide) ?_
      refine r_icmp_gt (tgt := 34) dX12_rod_20 (by decide) (fun c9 => ?_) (fun c9 => ?_)
      · replace h := h.1 c9
        refine r_aload_n 0 dX12_rod_34 rfl rfl ?_
        refine r_iconst dX12_rod_35 (by decide) (by decide) ?_
        obtain ⟨h10, h⟩ := h
        obtain ⟨h11, h⟩ := h
        refine r_invV (M := mX12_rod) (As := [(0, 2)]) (st := []) (X := v0) (mc := 0) (ms := 0) (fc := 0) (fs := 0) h ok_X12_refuse cls12 im_X12_refuse se_X12_refuse ml_RX12_184 dX12_rod_36 rfl h10 h11 (Nat.le_of_ble_eq_true rfl) rfl ?_
        rintro r K1 H12 ⟨rfl, x13, rfl, h⟩ -
        show Fr mX12_rod (d + 1) 0 0 none 39 [(0, (2, v0)), (1, (0, v1)), (2, (0, v2)), (3, (0, v3))] [(0, x13)] _ H12 _
        exact r_iret dX12_rod_39 rfl ⟨rfl, _, rfl, h⟩
      · replace h := h.2 c9
        refine r_iload_n 3 dX12_rod_23 rfl rfl ?_
        refine r_if_lt (tgt := 34) dX12_rod_24 (by decide) (fun c14 => ?_) (fun c14 => ?_)
        · replace h := h.1 c14
          refine r_aload_n 0 dX12_rod_34 rfl rfl ?_
          refine r_iconst dX12_rod_35 (by decide) (by decide) ?_
          obtain ⟨h15, h⟩ := h
          obtain ⟨h16, h⟩ := h
          refine r_invV (M := mX12_rod) (As := [(0, 2)]) (st := []) (X := v0) (mc := 0) (ms := 0) (fc := 0) (fs := 0) h ok_X12_refuse cls12 im_X12_refuse se_X12_refuse ml_RX12_184 dX12_rod_36 rfl h15 h16 (Nat.le_of_ble_eq_true rfl) rfl ?_
          rintro r K1 H17 ⟨rfl, x18, rfl, h⟩ -
          show Fr mX12_rod (d + 1) 0 0 none 39 [(0, (2, v0)), (1, (0, v1)), (2, (0, v2)), (3, (0, v3))] [(0, x18)] _ H17 _
          exact r_iret dX12_rod_39 rfl ⟨rfl, _, rfl, h⟩
        · replace h := h.2 c14
          refine r_iload_n 3 dX12_rod_27 rfl rfl ?_
          refine r_sipush dX12_rod_28 (by decide) (by decide) ?_
          refine r_icmp_le (tgt := 40) dX12_rod_31 (by decide) (fun c19 => ?_) (fun c19 => ?_)
          · replace h := h.1 c19
            refine r_aload_n 0 dX12_rod_40 rfl rfl ?_
            obtain ⟨h20, h⟩ := h
            obtain ⟨h21, h⟩ := h
            refine r_getf cls12 13 dX12_rod_41 (by decide) fl_RX12_34 rfl h20 h21 ?_
            refine r_iload_n 1 dX12_rod_44 rfl rfl ?_
            obtain ⟨h22, h⟩ := h
            obtain ⟨n23, h⟩ := h
            obtain ⟨h24, h⟩ := h
            obtain ⟨h25, h⟩ := h
            obtain ⟨h26, h⟩ := h
            refine r_iald n23 dX12_rod_45 h22 h24 h25 h26 ?_
            refine r_bipush dX12_rod_46 (by decide) (by decide) ?_
            refine r_icmp_ne (tgt := 57) dX12_rod_48 (by decide) (fun c27 => ?_) (fun c27 => ?_)
            · replace h := h.1 c27
              refine r_aload_n 0 dX12_rod_57 rfl rfl ?_
              refine r_getf cls12 16 dX12_rod_58 (by decide) fl_RX12_43 rfl h20 h21 ?_
              refine r_bipush dX12_rod_61 (by decide) (by decide) ?_
              refine r_iload_n 1 dX12_rod_63 rfl rfl ?_
              obtain ⟨h28, h⟩ := h
              refine r_imul dX12_rod_64 h28 ?_
              refine r_aload_n 0 dX12_rod_65 rfl rfl ?_
              refine r_getf cls12 13 dX12_rod_66 (by decide) fl_RX12_34 rfl h20 h21 ?_
              refine r_iload_n 1 dX12_rod_69 rfl rfl ?_
              refine r_iald n23 dX12_rod_70 h22 h24 h25 h26 ?_
              obtain ⟨h29, h⟩ := h
              refine r_iadd dX12_rod_71 h29 ?_
              refine r_iload_n 2 dX12_rod_72 rfl rfl ?_
              obtain ⟨h30, h⟩ := h
              obtain ⟨n31, h⟩ := h
              obtain ⟨h32, h⟩ := h
              obtain ⟨h33, h⟩ := h
              obtain ⟨h34, h⟩ := h
              refine r_iast n31 dX12_rod_73 h30 h32 h33 h34 ?_
              replace h := h _ rfl
              generalize upA H1 ((H1 (v0 : Int).toNat 16) : Int).toNat (up1 (H1 ((H1 (v0 : Int).toNat 16) : Int).toNat) (((6 * v1) + (H1 ((H1 (v0 : Int).toNat 13) : Int).toNat (v1 : Int).toNat)) : Int).toNat v2) = H35 at h ⊢
              refine r_aload_n 0 dX12_rod_74 rfl rfl ?_
              refine r_getf cls12 17 dX12_rod_75 (by decide) fl_RX12_46 rfl h20 h21 ?_
              refine r_bipush dX12_rod_78 (by decide) (by decide) ?_
              refine r_iload_n 1 dX12_rod_80 rfl rfl ?_
              refine r_imul dX12_rod_81 h28 ?_
              refine r_aload_n 0 dX12_rod_82 rfl rfl ?_
              refine r_getf cls12 13 dX12_rod_83 (by decide) fl_RX12_34 rfl h20 h21 ?_
              refine r_iload_n 1 dX12_rod_86 rfl rfl ?_
              obtain ⟨h36, h⟩ := h
              obtain ⟨n37, h⟩ := h
              obtain ⟨h38, h⟩ := h
              obtain ⟨h39, h⟩ := h
              refine r_iald n37 dX12_rod_87 h36 h38 h25 h39 ?_
              obtain ⟨h40, h⟩ := h
              refine r_iadd dX12_rod_88 h40 ?_
              refine r_iload_n 3 dX12_rod_89 rfl rfl ?_
              obtain ⟨h41, h⟩ := h
              obtain ⟨n42, h⟩ := h
              obtain ⟨h43, h⟩ := h
              obtain ⟨h44, h⟩ := h
              obtain ⟨h45, h⟩ := h
              refine r_iast n42 dX12_rod_90 h41 h43 h44 h45 ?_
              replace h := h _ rfl
              generalize upA H35 ((H35 (v0 : Int).toNat 17) : Int).toNat (up1 (H35 ((H35 (v0 : Int).toNat 17) : Int).toNat) (((6 * v1) + (H35 ((H35 (v0 : Int).toNat 13) : Int).toNat (v1 : Int).toNat)) : Int).toNat v3) = H46 at h ⊢
              refine r_aload_n 0 dX12_rod_91 rfl rfl ?_
              refine r_getf cls12 13 dX12_rod_92 (by decide) fl_RX12_34 rfl h20 h21 ?_
              refine r_iload_n 1 dX12_rod_95 rfl rfl ?_
              refine r_dup2 dX12_rod_96 (show (0 : Nat) ≠ 1 by decide) (show (2 : Nat) ≠ 1 by decide) ?_
              obtain ⟨h47, h⟩ := h
              obtain ⟨n48, h⟩ := h
              obtain ⟨h49, h⟩ := h
              obtain ⟨h50, h⟩ := h
              refine r_iald n48 dX12_rod_97 h47 h49 h25 h50 ?_
              refine r_iconst dX12_rod_98 (by decide) (by decide) ?_
              obtain ⟨h51, h⟩ := h
              refine r_iadd dX12_rod_99 h51 ?_
              refine r_iast n48 dX12_rod_100 h47 h49 h25 h50 ?_
              replace h := h _ rfl
              generalize upA H46 ((H46 (v0 : Int).toNat 13) : Int).toNat (up1 (H46 ((H46 (v0 : Int).toNat 13) : Int).toNat) (v1 : Int).toNat ((H46 ((H46 (v0 : Int).toNat 13) : Int).toNat (v1 : Int).toNat) + 1)) = H52 at h ⊢
              refine r_aload_n 0 dX12_rod_101 rfl rfl ?_
              refine r_iconst dX12_rod_102 (by decide) (by decide) ?_
              refine r_putf cls12 0 dX12_rod_103 (by decide) rfl fl_RX12_89 rfl h20 h21 (fun o => o) ?_
              replace h := h _ rfl
              generalize upA H52 (v0 : Int).toNat (up1 (H52 (v0 : Int).toNat) 0 0) = H53 at h ⊢
              refine r_aload_n 0 dX12_rod_106 rfl rfl ?_
              refine r_getf cls12 13 dX12_rod_107 (by decide) fl_RX12_34 rfl h20 h21 ?_
              refine r_iload_n 1 dX12_rod_110 rfl rfl ?_
              obtain ⟨h54, h⟩ := h
              obtain ⟨n55, h⟩ := h
              obtain ⟨h56, h⟩ := h
              obtain ⟨h57, h⟩ := h
              refine r_iald n55 dX12_rod_111 h54 h56 h25 h57 ?_
              refine r_iconst dX12_rod_112 (by decide) (by decide) ?_
              obtain ⟨h58, h⟩ := h
              refine r_isub dX12_rod_113 h58 ?_
              exact r_iret dX12_rod_114 rfl ⟨rfl, _, rfl, h⟩
            · replace h := h.2 c27
              refine r_aload_n 0 dX12_rod_51 rfl rfl ?_
              refine r_iconst dX12_rod_52 (by decide) (by decide) ?_
              refine r_invV (M := mX12_rod) (As := [(0, 3)]) (st := []) (X := v0) (mc := 0) (ms := 0) (fc := 0) (fs := 0) h ok_X12_refuse cls12 im_X12_refuse se_X12_refuse ml_RX12_184 dX12_rod_53 rfl h20 h21 (Nat.le_of_ble_eq_true rfl) rfl ?_
              rintro r K1 H59 ⟨rfl, x60, rfl, h⟩ -
              show Fr mX12_rod (d + 1) 0 0 none 56 [(0, (2, v0)), (1, (0, v1)), (2, (0, v2)), (3, (0, v3))] [(0, x60)] _ H59 _
              exact r_iret dX12_rod_56 rfl ⟨rfl, _, rfl, h⟩
          · replace h := h.2 c19
            refine r_aload_n 0 dX12_rod_34 rfl rfl ?_
            refine r_iconst dX12_rod_35 (by decide) (by decide) ?_
            obtain ⟨h61, h⟩ := h
            obtain ⟨h62, h⟩ := h
            refine r_invV (M := mX12_rod) (As := [(0, 2)]) (st := []) (X := v0) (mc := 0) (ms := 0) (fc := 0) (fs := 0) h ok_X12_refuse cls12 im_X12_refuse se_X12_refuse ml_RX12_184 dX12_rod_36 rfl h61 h62 (Nat.le_of_ble_eq_true rfl) rfl ?_
            rintro r K1 H63 ⟨rfl, x64, rfl, h⟩ -
            show Fr mX12_rod (d + 1) 0 0 none 39 [(0, (2, v0)), (1, (0, v1)), (2, (0, v2)), (3, (0, v3))] [(0, x64)] _ H63 _
            exact r_iret dX12_rod_39 rfl ⟨rfl, _, rfl, h⟩
  · replace h := h.2 c3
    refine r_aload_n 0 dX12_rod_7 rfl rfl ?_
    refine r_iconst dX12_rod_8 (by decide) (by decide) ?_
    obtain ⟨h65, h⟩ := h
    obtain ⟨h66, h⟩ := h
    refine r_invV (M := mX12_rod) (As := [(0, 1)]) (st := []) (X := v0) (mc := 0) (ms := 0) (fc := 0) (fs := 0) h ok_X12_refuse cls12 im_X12_refuse se_X12_refuse ml_RX12_184 dX12_rod_9 rfl h65 h66 (Nat.le_of_ble_eq_true rfl) rfl ?_
    rintro r K1 H67 ⟨rfl, x68, rfl, h⟩ -
    show Fr mX12_rod (d + 1) 0 0 none 12 [(0, (2, v0)), (1, (0, v1)), (2, (0, v2)), (3, (0, v3))] [(0, x68)] _ H67 _
    exact r_iret dX12_rod_12 rfl ⟨rfl, _, rfl, h⟩
set_option maxRecDepth 20000 in
theorem eX12_rod {d : Nat} {K : Shp} {H : Mem} {q : Int → Mem → Prop} {v0 v1 v2 v3 : Int} (h : inI v1 → inI v2 → inI v3 → Rng K H → FX12_rod_0 d K H q v0 v1 v2 v3) : Ci mX12_rod (d + 1) [(2, v0), (0, v1), (0, v2), (0, v3)] K H q := Call.of rfl (Nat.le_of_ble_eq_true rfl) (fun o r => h (o (0, v1) (by simp)) (o (0, v2) (by simp)) (o (0, v3) (by simp)) r)
def FX12_isRod_0 (d : Nat) (K : Shp) (H : Mem) (q : Int → Mem → Prop) (v0 : Int) (v1 : Int) (v2 : Int) : Prop := Fr mX12_isRod (d + 1) 0 0 none 0 [(0, (2, v0)), (1, (0, v1)), (2, (0, v2))] [] K H (qi K q)
set_option maxRecDepth 20000 in
theorem bX12_isRod_0 {d : Nat} {K : Shp} {H : Mem} {q : Int → Mem → Prop} {v0 v1 v2 : Int} (h : Ci mX12_isSection d [(0, v1)] K H (fun x2 H1 => (((x2 : Int) = 0 → q 0 H1) ∧ (¬ (x2 : Int) = 0 → (((v2 : Int) < 0 → q 0 H1) ∧ (¬ (v2 : Int) < 0 → ((0 : Int) ≤ v0) ∧ (K[(v0 : Int).toNat]? = some (12, 51)) ∧ ((0 : Int) ≤ (H1 (v0 : Int).toNat 13)) ∧ ∃ n8 : Nat, (K[((H1 (v0 : Int).toNat 13) : Int).toNat]? = some (20, n8)) ∧ ((0 : Int) ≤ v1) ∧ ((v1 : Int) < n8) ∧ ((¬ (v2 : Int) < (H1 ((H1 (v0 : Int).toNat 13) : Int).toNat (v1 : Int).toNat) → q 0 H1) ∧ ((v2 : Int) < (H1 ((H1 (v0 : Int).toNat 13) : Int).toNat (v1 : Int).toNat) → q 1 H1)))))))) : FX12_isRod_0 d K H q (v0) (v1) (v2) := by
  unfold FX12_isRod_0
  refine r_iload_n 1 dX12_isRod_0 rfl rfl ?_
  refine r_invS (M := mX12_isRod) (As := [(0, v1)]) (st := []) (mc := 0) (ms := 0) (fc := 0) (fs := 0) h ok_X12_isSection sm_X12_isSection ml_RX12_177 dX12_isRod_1 rfl (Nat.le_of_ble_eq_true rfl) rfl ?_
  rintro r K1 H1 ⟨rfl, x2, rfl, h⟩ -
  show Fr mX12_isRod (d + 1) 0 0 none 4 [(0, (2, v0)), (1, (0, v1)), (2, (0, v2))] [(0, x2)] _ H1 _
  refine r_if_eq (tgt := 25) dX12_isRod_4 (by decide) (fun c3 => ?_) (fun c3 => ?_)
  · replace h := h.1 c3
    refine r_iconst dX12_isRod_25 (by decide) (by decide) ?_
    exact r_zret dX12_isRod_26 rfl (Or.inl rfl) ⟨rfl, _, rfl, h⟩
  · replace h := h.2 c3
    refine r_iload_n 2 dX12_isRod_7 rfl rfl ?_
    refine r_if_lt (tgt := 25) dX12_isRod_8 (by decide) (fun c4 => ?_) (fun c4 => ?_)
    · replace h := h.1 c4
      refine r_iconst dX12_isRod_25 (by decide) (by decide) ?_
      exact r_zret dX12_isRod_26 rfl (Or.inl rfl) ⟨rfl, _, rfl, h⟩
    · replace h := h.2 c4
      refine r_iload_n 2 dX12_isRod_11 rfl rfl ?_
      refine r_aload_n 0 dX12_isRod_12 rfl rfl ?_
      obtain ⟨h5, h⟩ := h
      obtain ⟨h6, h⟩ := h
      refine r_getf cls12 13 dX12_isRod_13 (by decide) fl_RX12_34 rfl h5 h6 ?_
      refine r_iload_n 1 dX12_isRod_16 rfl rfl ?_
      obtain ⟨h7, h⟩ := h
      obtain ⟨n8, h⟩ := h
      obtain ⟨h9, h⟩ := h
      obtain ⟨h10, h⟩ := h
      obtain ⟨h11, h⟩ := h
      refine r_iald n8 dX12_isRod_17 h7 h9 h10 h11 ?_
      refine r_icmp_ge (tgt := 25) dX12_isRod_18 (by decide) (fun c12 => ?_) (fun c12 => ?_)
      · replace h := h.1 c12
        refine r_iconst dX12_isRod_25 (by decide) (by decide) ?_
        exact r_zret dX12_isRod_26 rfl (Or.inl rfl) ⟨rfl, _, rfl, h⟩
      · replace h := h.2 c12
        refine r_iconst dX12_isRod_21 (by decide) (by decide) ?_
        refine r_goto (tgt := 26) dX12_isRod_22 (by decide) ?_
        exact r_zret dX12_isRod_26 rfl (Or.inr rfl) ⟨rfl, _, rfl, h⟩
set_option maxRecDepth 20000 in
theorem eX12_isRod {d : Nat} {K : Shp} {H : Mem} {q : Int → Mem → Prop} {v0 v1 v2 : Int} (h : inI v1 → inI v2 → Rng K H → FX12_isRod_0 d K H q v0 v1 v2) : Ci mX12_isRod (d + 1) [(2, v0), (0, v1), (0, v2)] K H q := Call.of rfl (Nat.le_of_ble_eq_true rfl) (fun o r => h (o (0, v1) (by simp)) (o (0, v2) (by simp)) r)
def FX12_change_0 (d : Nat) (K : Shp) (H : Mem) (q : Int → Mem → Prop) (v0 : Int) (v1 : Int) (v2 : Int) (v3 : Int) : Prop := Fr mX12_change (d + 1) 0 0 none 0 [(0, (2, v0)), (1, (0, v1)), (2, (0, v2)), (3, (0, v3))] [] K H (qi K q)
set_option maxRecDepth 20000 in
theorem bX12_change_0 {d : Nat} {K : Shp} {H : Mem} {q : Int → Mem → Prop} {v0 v1 v2 v3 : Int} (h : ((0 : Int) ≤ v0) ∧ (K[(v0 : Int).toNat]? = some (12, 51)) ∧ Ci mX12_isRod d [(2, v0), (0, v1), (0, v2)] K H (fun x4 H3 => ((¬ (x4 : Int) = 0 → (((v3 : Int) < 0 → Ci mX12_is d [(2, v0), (0, 2)] K H3 (fun x8 H7 => ((x8 : Int) = 0 ∨ (x8 : Int) = 1) ∧ q x8 H7)) ∧ (¬ (v3 : Int) < 0 → (((v3 : Int) ≤ 200 → (inI (6 * v1)) ∧ (inI ((6 * v1) + v2)) ∧ ((0 : Int) ≤ (H3 (v0 : Int).toNat 17)) ∧ ∃ n14 : Nat, (K[((H3 (v0 : Int).toNat 17) : Int).toNat]? = some (20, n14)) ∧ ((0 : Int) ≤ ((6 * v1) + v2)) ∧ ((((6 * v1) + v2) : Int) < n14) ∧ ∀ H18 : Mem, H18 = upA H3 ((H3 (v0 : Int).toNat 17) : Int).toNat (up1 (H3 ((H3 (v0 : Int).toNat 17) : Int).toNat) (((6 * v1) + v2) : Int).toNat v3) → Ci mX12_is d [(2, v0), (0, 0)] K H18 (fun x20 H19 => ((x20 : Int) = 0 ∨ (x20 : Int) = 1) ∧ q x20 H19)) ∧ (¬ (v3 : Int) ≤ 200 → Ci mX12_is d [(2, v0), (0, 2)] K H3 (fun x23 H22 => ((x23 : Int) = 0 ∨ (x23 : Int) = 1) ∧ q x23 H22)))))) ∧ ((x4 : Int) = 0 → Ci mX12_is d [(2, v0), (0, 1)] K H3 (fun x26 H25 => ((x26 : Int) = 0 ∨ (x26 : Int) = 1) ∧ q x26 H25))))) : FX12_change_0 d K H q (v0) (v1) (v2) (v3) := by
  unfold FX12_change_0
  refine r_aload_n 0 dX12_change_0 rfl rfl ?_
  refine r_iload_n 1 dX12_change_1 rfl rfl ?_
  refine r_iload_n 2 dX12_change_2 rfl rfl ?_
  obtain ⟨h1, h⟩ := h
  obtain ⟨h2, h⟩ := h
  refine r_invV (M := mX12_change) (As := [(0, v1), (0, v2)]) (st := []) (X := v0) (mc := 0) (ms := 0) (fc := 0) (fs := 0) h ok_X12_isRod cls12 im_X12_isRod se_X12_isRod ml_RX12_187 dX12_change_3 rfl h1 h2 (Nat.le_of_ble_eq_true rfl) rfl ?_
  rintro r K1 H3 ⟨rfl, x4, rfl, h⟩ -
  show Fr mX12_change (d + 1) 0 0 none 6 [(0, (2, v0)), (1, (0, v1)), (2, (0, v2)), (3, (0, v3))] [(0, x4)] _ H3 _
  refine r_if_ne (tgt := 15) dX12_change_6 (by decide) (fun c5 => ?_) (fun c5 => ?_)
  · replace h := h.1 c5
    refine r_iload_n 3 dX12_change_15 rfl rfl ?_
    refine r_if_lt (tgt := 26) dX12_change_16 (by decide) (fun c6 => ?_) (fun c6 => ?_)
    · replace h := h.1 c6
      refine r_aload_n 0 dX12_change_26 rfl rfl ?_
      refine r_iconst dX12_change_27 (by decide) (by decide) ?_
      refine r_invV (M := mX12_change) (As := [(0, 2)]) (st := []) (X := v0) (mc := 0) (ms := 0) (fc := 0) (fs := 0) h ok_X12_is cls12 im_X12_is se_X12_is ml_RX12_181 dX12_change_28 rfl h1 h2 (Nat.le_of_ble_eq_true rfl) rfl ?_
      rintro r K1 H7 ⟨rfl, x8, rfl, h⟩ -
      show Fr mX12_change (d + 1) 0 0 none 31 [(0, (2, v0)), (1, (0, v1)), (2, (0, v2)), (3, (0, v3))] [(0, x8)] _ H7 _
      obtain ⟨h9, h⟩ := h
      exact r_zret dX12_change_31 rfl h9 ⟨rfl, _, rfl, h⟩
    · replace h := h.2 c6
      refine r_iload_n 3 dX12_change_19 rfl rfl ?_
      refine r_sipush dX12_change_20 (by decide) (by decide) ?_
      refine r_icmp_le (tgt := 32) dX12_change_23 (by decide) (fun c10 => ?_) (fun c10 => ?_)
      · replace h := h.1 c10
        refine r_aload_n 0 dX12_change_32 rfl rfl ?_
        refine r_getf cls12 17 dX12_change_33 (by decide) fl_RX12_46 rfl h1 h2 ?_
        refine r_bipush dX12_change_36 (by decide) (by decide) ?_
        refine r_iload_n 1 dX12_change_38 rfl rfl ?_
        obtain ⟨h11, h⟩ := h
        refine r_imul dX12_change_39 h11 ?_
        refine r_iload_n 2 dX12_change_40 rfl rfl ?_
        obtain ⟨h12, h⟩ := h
        refine r_iadd dX12_change_41 h12 ?_
        refine r_iload_n 3 dX12_change_42 rfl rfl ?_
        obtain ⟨h13, h⟩ := h
        obtain ⟨n14, h⟩ := h
        obtain ⟨h15, h⟩ := h
        obtain ⟨h16, h⟩ := h
        obtain ⟨h17, h⟩ := h
        refine r_iast n14 dX12_change_43 h13 h15 h16 h17 ?_
        replace h := h _ rfl
        generalize upA H3 ((H3 (v0 : Int).toNat 17) : Int).toNat (up1 (H3 ((H3 (v0 : Int).toNat 17) : Int).toNat) (((6 * v1) + v2) : Int).toNat v3) = H18 at h ⊢
        refine r_aload_n 0 dX12_change_44 rfl rfl ?_
        refine r_iconst dX12_change_45 (by decide) (by decide) ?_
        refine r_invV (M := mX12_change) (As := [(0, 0)]) (st := []) (X := v0) (mc := 0) (ms := 0) (fc := 0) (fs := 0) h ok_X12_is cls12 im_X12_is se_X12_is ml_RX12_181 dX12_change_46 rfl h1 h2 (Nat.le_of_ble_eq_true rfl) rfl ?_
        rintro r K1 H19 ⟨rfl, x20, rfl, h⟩ -
        show Fr mX12_change (d + 1) 0 0 none 49 [(0, (2, v0)), (1, (0, v1)), (2, (0, v2)), (3, (0, v3))] [(0, x20)] _ H19 _
        obtain ⟨h21, h⟩ := h
        exact r_zret dX12_change_49 rfl h21 ⟨rfl, _, rfl, h⟩
      · replace h := h.2 c10
        refine r_aload_n 0 dX12_change_26 rfl rfl ?_
        refine r_iconst dX12_change_27 (by decide) (by decide) ?_
        refine r_invV (M := mX12_change) (As := [(0, 2)]) (st := []) (X := v0) (mc := 0) (ms := 0) (fc := 0) (fs := 0) h ok_X12_is cls12 im_X12_is se_X12_is ml_RX12_181 dX12_change_28 rfl h1 h2 (Nat.le_of_ble_eq_true rfl) rfl ?_
        rintro r K1 H22 ⟨rfl, x23, rfl, h⟩ -
        show Fr mX12_change (d + 1) 0 0 none 31 [(0, (2, v0)), (1, (0, v1)), (2, (0, v2)), (3, (0, v3))] [(0, x23)] _ H22 _
        obtain ⟨h24, h⟩ := h
        exact r_zret dX12_change_31 rfl h24 ⟨rfl, _, rfl, h⟩
  · replace h := h.2 c5
    refine r_aload_n 0 dX12_change_9 rfl rfl ?_
    refine r_iconst dX12_change_10 (by decide) (by decide) ?_
    refine r_invV (M := mX12_change) (As := [(0, 1)]) (st := []) (X := v0) (mc := 0) (ms := 0) (fc := 0) (fs := 0) h ok_X12_is cls12 im_X12_is se_X12_is ml_RX12_181 dX12_change_11 rfl h1 h2 (Nat.le_of_ble_eq_true rfl) rfl ?_
    rintro r K1 H25 ⟨rfl, x26, rfl, h⟩ -
    show Fr mX12_change (d + 1) 0 0 none 14 [(0, (2, v0)), (1, (0, v1)), (2, (0, v2)), (3, (0, v3))] [(0, x26)] _ H25 _
    obtain ⟨h27, h⟩ := h
    exact r_zret dX12_change_14 rfl h27 ⟨rfl, _, rfl, h⟩
set_option maxRecDepth 20000 in
theorem eX12_change {d : Nat} {K : Shp} {H : Mem} {q : Int → Mem → Prop} {v0 v1 v2 v3 : Int} (h : inI v1 → inI v2 → inI v3 → Rng K H → FX12_change_0 d K H q v0 v1 v2 v3) : Ci mX12_change (d + 1) [(2, v0), (0, v1), (0, v2), (0, v3)] K H q := Call.of rfl (Nat.le_of_ble_eq_true rfl) (fun o r => h (o (0, v1) (by simp)) (o (0, v2) (by simp)) (o (0, v3) (by simp)) r)
def FX12_asTold_0 (d : Nat) (K : Shp) (H : Mem) (q : Mem → Prop) (v0 : Int) (v1 : Int) : Prop := Fr mX12_asTold d 0 0 none 0 [(0, (2, v0)), (1, (0, v1))] [] K H (qv K q)
def FX12_asTold_2 (d : Nat) (K : Shp) (H : Mem) (q : Mem → Prop) (v0 : Int) (v1 : Int) (v2 : Int) : Prop := Fr mX12_asTold d 0 0 none 2 [(0, (2, v0)), (1, (0, v1)), (2, (0, v2))] [] K H (qv K q)
set_option maxRecDepth 20000 in
theorem bX12_asTold_0 {d : Nat} {K : Shp} {H : Mem} {q : Mem → Prop} {v0 v1 : Int} (h : FX12_asTold_2 d K H q (v0) (v1) (0)) : FX12_asTold_0 d K H q (v0) (v1) := by
  unfold FX12_asTold_0
  refine r_iconst dX12_asTold_0 (by decide) (by decide) ?_
  refine r_istore_n dX12_asTold_1 rfl (by decide) rfl ?_
  refine Fr.fewer [1, 2, 0] rfl ?_
  exact h
set_option maxRecDepth 20000 in
theorem bX12_asTold_2 {d : Nat} {K : Shp} {H : Mem} {q : Mem → Prop} {v0 v1 v2 : Int} (h : ((¬ (v2 : Int) < 6 → q H) ∧ ((v2 : Int) < 6 → ((0 : Int) ≤ v0) ∧ (K[(v0 : Int).toNat]? = some (12, 51)) ∧ ((0 : Int) ≤ (H (v0 : Int).toNat 13)) ∧ ∃ n5 : Nat, (K[((H (v0 : Int).toNat 13) : Int).toNat]? = some (20, n5)) ∧ ((0 : Int) ≤ v1) ∧ ((v1 : Int) < n5) ∧ ((¬ (v2 : Int) < (H ((H (v0 : Int).toNat 13) : Int).toNat (v1 : Int).toNat) → ((0 : Int) ≤ (H (v0 : Int).toNat 18)) ∧ ∃ n11 : Nat, (K[((H (v0 : Int).toNat 18) : Int).toNat]? = some (20, n11)) ∧ ((0 : Int) ≤ v2) ∧ ((v2 : Int) < n11) ∧ ∀ H15 : Mem, H15 = upA H ((H (v0 : Int).toNat 18) : Int).toNat (up1 (H ((H (v0 : Int).toNat 18) : Int).toNat) (v2 : Int).toNat 0) → (inI (v2 + 1)) ∧ FX12_asTold_2 d K H15 q (v0) (v1) ((v2 + 1))) ∧ ((v2 : Int) < (H ((H (v0 : Int).toNat 13) : Int).toNat (v1 : Int).toNat) → (inI (6 * v1)) ∧ (inI ((6 * v1) + v2)) ∧ ((0 : Int) ≤ (H (v0 : Int).toNat 17)) ∧ ∃ n20 : Nat, (K[((H (v0 : Int).toNat 17) : Int).toNat]? = some (20, n20)) ∧ ((0 : Int) ≤ ((6 * v1) + v2)) ∧ ((((6 * v1) + v2) : Int) < n20) ∧ ((0 : Int) ≤ (H (v0 : Int).toNat 18)) ∧ ∃ n25 : Nat, (K[((H (v0 : Int).toNat 18) : Int).toNat]? = some (20, n25)) ∧ ((0 : Int) ≤ v2) ∧ ((v2 : Int) < n25) ∧ ∀ H29 : Mem, H29 = upA H ((H (v0 : Int).toNat 18) : Int).toNat (up1 (H ((H (v0 : Int).toNat 18) : Int).toNat) (v2 : Int).toNat (H ((H (v0 : Int).toNat 17) : Int).toNat (((6 * v1) + v2) : Int).toNat)) → (inI (v2 + 1)) ∧ FX12_asTold_2 d K H29 q (v0) (v1) ((v2 + 1))))))) : FX12_asTold_2 d K H q (v0) (v1) (v2) := by
  unfold FX12_asTold_2
  refine r_iload_n 2 dX12_asTold_2 rfl rfl ?_
  refine r_bipush dX12_asTold_3 (by decide) (by decide) ?_
  refine r_icmp_ge (tgt := 45) dX12_asTold_5 (by decide) (fun c1 => ?_) (fun c1 => ?_)
  · replace h := h.1 c1
    exact r_vret dX12_asTold_45 rfl ⟨rfl, rfl, h⟩
  · replace h := h.2 c1
    refine r_aload_n 0 dX12_asTold_8 rfl rfl ?_
    obtain ⟨h2, h⟩ := h
    obtain ⟨h3, h⟩ := h
    refine r_getf cls12 18 dX12_asTold_9 (by decide) fl_RX12_49 rfl h2 h3 ?_
    refine r_iload_n 2 dX12_asTold_12 rfl rfl ?_
    refine r_iload_n 2 dX12_asTold_13 rfl rfl ?_
    refine r_aload_n 0 dX12_asTold_14 rfl rfl ?_
    refine r_getf cls12 13 dX12_asTold_15 (by decide) fl_RX12_34 rfl h2 h3 ?_
    refine r_iload_n 1 dX12_asTold_18 rfl rfl ?_
    obtain ⟨h4, h⟩ := h
    obtain ⟨n5, h⟩ := h
    obtain ⟨h6, h⟩ := h
    obtain ⟨h7, h⟩ := h
    obtain ⟨h8, h⟩ := h
    refine r_iald n5 dX12_asTold_19 h4 h6 h7 h8 ?_
    refine r_icmp_ge (tgt := 37) dX12_asTold_20 (by decide) (fun c9 => ?_) (fun c9 => ?_)
    · replace h := h.1 c9
      refine r_iconst dX12_asTold_37 (by decide) (by decide) ?_
      obtain ⟨h10, h⟩ := h
      obtain ⟨n11, h⟩ := h
      obtain ⟨h12, h⟩ := h
      obtain ⟨h13, h⟩ := h
      obtain ⟨h14, h⟩ := h
      refine r_iast n11 dX12_asTold_38 h10 h12 h13 h14 ?_
      replace h := h _ rfl
      generalize upA H ((H (v0 : Int).toNat 18) : Int).toNat (up1 (H ((H (v0 : Int).toNat 18) : Int).toNat) (v2 : Int).toNat 0) = H15 at h ⊢
      obtain ⟨h16, h⟩ := h
      refine r_iinc 2 dX12_asTold_39 (by decide) rfl h16 rfl ?_
      refine r_goto (tgt := 2) dX12_asTold_42 (by decide) ?_
      refine Fr.fewer [1, 2, 0] rfl ?_
      exact h
    · replace h := h.2 c9
      refine r_aload_n 0 dX12_asTold_23 rfl rfl ?_
      refine r_getf cls12 17 dX12_asTold_24 (by decide) fl_RX12_46 rfl h2 h3 ?_
      refine r_bipush dX12_asTold_27 (by decide) (by decide) ?_
      refine r_iload_n 1 dX12_asTold_29 rfl rfl ?_
      obtain ⟨h17, h⟩ := h
      refine r_imul dX12_asTold_30 h17 ?_
      refine r_iload_n 2 dX12_asTold_31 rfl rfl ?_
      obtain ⟨h18, h⟩ := h
      refine r_iadd dX12_asTold_32 h18 ?_
      obtain ⟨h19, h⟩ := h
      obtain ⟨n20, h⟩ := h
      obtain ⟨h21, h⟩ := h
      obtain ⟨h22, h⟩ := h
      obtain ⟨h23, h⟩ := h
      refine r_iald n20 dX12_asTold_33 h19 h21 h22 h23 ?_
      refine r_goto (tgt := 38) dX12_asTold_34 (by decide) ?_
      obtain ⟨h24, h⟩ := h
      obtain ⟨n25, h⟩ := h
      obtain ⟨h26, h⟩ := h
      obtain ⟨h27, h⟩ := h
      obtain ⟨h28, h⟩ := h
      refine r_iast n25 dX12_asTold_38 h24 h26 h27 h28 ?_
      replace h := h _ rfl
      generalize upA H ((H (v0 : Int).toNat 18) : Int).toNat (up1 (H ((H (v0 : Int).toNat 18) : Int).toNat) (v2 : Int).toNat (H ((H (v0 : Int).toNat 17) : Int).toNat (((6 * v1) + v2) : Int).toNat)) = H29 at h ⊢
      obtain ⟨h30, h⟩ := h
      refine r_iinc 2 dX12_asTold_39 (by decide) rfl h30 rfl ?_
      refine r_goto (tgt := 2) dX12_asTold_42 (by decide) ?_
      refine Fr.fewer [1, 2, 0] rfl ?_
      exact h
set_option maxRecDepth 20000 in
theorem eX12_asTold {d : Nat} {K : Shp} {H : Mem} {q : Mem → Prop} {v0 v1 : Int} (h : inI v1 → Rng K H → FX12_asTold_0 d K H q v0 v1) : Cv mX12_asTold d [(2, v0), (0, v1)] K H q := Call.of rfl (Nat.le_of_ble_eq_true rfl) (fun o r => h (o (0, v1) (by simp)) r)
def FX12_pulls_0 (d : Nat) (K : Shp) (H : Mem) (q : Int → Mem → Prop) (v0 : Int) : Prop := Fr mX12_pulls d 0 0 none 0 [(0, (2, v0))] [] K H (qi K q)
def FX12_pulls_4 (d : Nat) (K : Shp) (H : Mem) (q : Int → Mem → Prop) (v0 : Int) (v1 : Int) (v2 : Int) : Prop := Fr mX12_pulls d 0 0 none 4 [(0, (2, v0)), (1, (0, v1)), (2, (0, v2))] [] K H (qi K q)
set_option maxRecDepth 20000 in
theorem bX12_pulls_0 {d : Nat} {K : Shp} {H : Mem} {q : Int → Mem → Prop} {v0 : Int} (h : FX12_pulls_4 d K H q (v0) (0) (0)) : FX12_pulls_0 d K H q (v0) := by
  unfold FX12_pulls_0
  refine r_iconst dX12_pulls_0 (by decide) (by decide) ?_
  refine r_istore_n dX12_pulls_1 rfl (by decide) rfl ?_
  refine r_iconst dX12_pulls_2 (by decide) (by decide) ?_
  refine r_istore_n dX12_pulls_3 rfl (by decide) rfl ?_
  refine Fr.fewer [2, 1, 0] rfl ?_
  exact h
set_option maxRecDepth 20000 in
theorem bX12_pulls_4 {d : Nat} {K : Shp} {H : Mem} {q : Int → Mem → Prop} {v0 v1 v2 : Int} (h : ((¬ (v2 : Int) < 6 → q v1 H) ∧ ((v2 : Int) < 6 → ((0 : Int) ≤ v0) ∧ (K[(v0 : Int).toNat]? = some (12, 51)) ∧ ((0 : Int) ≤ (H (v0 : Int).toNat 18)) ∧ ∃ n5 : Nat, (K[((H (v0 : Int).toNat 18) : Int).toNat]? = some (20, n5)) ∧ ((0 : Int) ≤ v2) ∧ ((v2 : Int) < n5) ∧ (inI (v1 + (H ((H (v0 : Int).toNat 18) : Int).toNat (v2 : Int).toNat))) ∧ (inI (v2 + 1)) ∧ FX12_pulls_4 d K H q (v0) ((v1 + (H ((H (v0 : Int).toNat 18) : Int).toNat (v2 : Int).toNat))) ((v2 + 1))))) : FX12_pulls_4 d K H q (v0) (v1) (v2) := by
  unfold FX12_pulls_4
  refine r_iload_n 2 dX12_pulls_4 rfl rfl ?_
  refine r_bipush dX12_pulls_5 (by decide) (by decide) ?_
  refine r_icmp_ge (tgt := 25) dX12_pulls_7 (by decide) (fun c1 => ?_) (fun c1 => ?_)
  · replace h := h.1 c1
    refine r_iload_n 1 dX12_pulls_25 rfl rfl ?_
    exact r_iret dX12_pulls_26 rfl ⟨rfl, _, rfl, h⟩
  · replace h := h.2 c1
    refine r_iload_n 1 dX12_pulls_10 rfl rfl ?_
    refine r_aload_n 0 dX12_pulls_11 rfl rfl ?_
    obtain ⟨h2, h⟩ := h
    obtain ⟨h3, h⟩ := h
    refine r_getf cls12 18 dX12_pulls_12 (by decide) fl_RX12_49 rfl h2 h3 ?_
    refine r_iload_n 2 dX12_pulls_15 rfl rfl ?_
    obtain ⟨h4, h⟩ := h
    obtain ⟨n5, h⟩ := h
    obtain ⟨h6, h⟩ := h
    obtain ⟨h7, h⟩ := h
    obtain ⟨h8, h⟩ := h
    refine r_iald n5 dX12_pulls_16 h4 h6 h7 h8 ?_
    obtain ⟨h9, h⟩ := h
    refine r_iadd dX12_pulls_17 h9 ?_
    refine r_istore_n dX12_pulls_18 rfl (by decide) rfl ?_
    obtain ⟨h10, h⟩ := h
    refine r_iinc 2 dX12_pulls_19 (by decide) rfl h10 rfl ?_
    refine r_goto (tgt := 4) dX12_pulls_22 (by decide) ?_
    refine Fr.fewer [2, 1, 0] rfl ?_
    exact h
set_option maxRecDepth 20000 in
theorem eX12_pulls {d : Nat} {K : Shp} {H : Mem} {q : Int → Mem → Prop} {v0 : Int} (h : Rng K H → FX12_pulls_0 d K H q v0) : Ci mX12_pulls d [(2, v0)] K H q := Call.of rfl (Nat.le_of_ble_eq_true rfl) (fun o r => h  r)
def FX12_greatest_0 (d : Nat) (K : Shp) (H : Mem) (q : Int → Mem → Prop) (v0 : Int) (v1 : Int) : Prop := Fr mX12_greatest (d + 1) 0 0 none 0 [(0, (2, v0)), (1, (0, v1))] [] K H (qi K q)
set_option maxRecDepth 20000 in
theorem bX12_greatest_0 {d : Nat} {K : Shp} {H : Mem} {q : Int → Mem → Prop} {v0 v1 : Int} (h : ((0 : Int) ≤ v0) ∧ (K[(v0 : Int).toNat]? = some (12, 51)) ∧ ((0 : Int) ≤ (H (v0 : Int).toNat 10)) ∧ ∃ n4 : Nat, (K[((H (v0 : Int).toNat 10) : Int).toNat]? = some (20, n4)) ∧ ((0 : Int) ≤ v1) ∧ ((v1 : Int) < n4) ∧ ((0 : Int) ≤ (H (v0 : Int).toNat 14)) ∧ ∃ n9 : Nat, (K[((H (v0 : Int).toNat 14) : Int).toNat]? = some (20, n9)) ∧ ((v1 : Int) < n9) ∧ (inI ((H ((H (v0 : Int).toNat 10) : Int).toNat (v1 : Int).toNat) * (H ((H (v0 : Int).toNat 14) : Int).toNat (v1 : Int).toNat))) ∧ Ci mX12_pulls d [(2, v0)] K H (fun x14 H13 => (inI (((H ((H (v0 : Int).toNat 10) : Int).toNat (v1 : Int).toNat) * (H ((H (v0 : Int).toNat 14) : Int).toNat (v1 : Int).toNat)) + x14)) ∧ q (((H ((H (v0 : Int).toNat 10) : Int).toNat (v1 : Int).toNat) * (H ((H (v0 : Int).toNat 14) : Int).toNat (v1 : Int).toNat)) + x14) H13)) : FX12_greatest_0 d K H q (v0) (v1) := by
  unfold FX12_greatest_0
  refine r_aload_n 0 dX12_greatest_0 rfl rfl ?_
  obtain ⟨h1, h⟩ := h
  obtain ⟨h2, h⟩ := h
  refine r_getf cls12 10 dX12_greatest_1 (by decide) fl_RX12_25 rfl h1 h2 ?_
  refine r_iload_n 1 dX12_greatest_4 rfl rfl ?_
  obtain ⟨h3, h⟩ := h
  obtain ⟨n4, h⟩ := h
  obtain ⟨h5, h⟩ := h
  obtain ⟨h6, h⟩ := h
  obtain ⟨h7, h⟩ := h
  refine r_iald n4 dX12_greatest_5 h3 h5 h6 h7 ?_
  refine r_aload_n 0 dX12_greatest_6 rfl rfl ?_
  refine r_getf cls12 14 dX12_greatest_7 (by decide) fl_RX12_37 rfl h1 h2 ?_
  refine r_iload_n 1 dX12_greatest_10 rfl rfl ?_
  obtain ⟨h8, h⟩ := h
  obtain ⟨n9, h⟩ := h
  obtain ⟨h10, h⟩ := h
  obtain ⟨h11, h⟩ := h
  refine r_iald n9 dX12_greatest_11 h8 h10 h6 h11 ?_
  obtain ⟨h12, h⟩ := h
  refine r_imul dX12_greatest_12 h12 ?_
  refine r_aload_n 0 dX12_greatest_13 rfl rfl ?_
  refine r_invV (M := mX12_greatest) (As := []) (st := [(0, ((H ((H (v0 : Int).toNat 10) : Int).toNat (v1 : Int).toNat) * (H ((H (v0 : Int).toNat 14) : Int).toNat (v1 : Int).toNat)))]) (X := v0) (mc := 0) (ms := 0) (fc := 0) (fs := 0) h ok_X12_pulls cls12 im_X12_pulls se_X12_pulls ml_RX12_191 dX12_greatest_14 rfl h1 h2 (Nat.le_of_ble_eq_true rfl) rfl ?_
  rintro r K1 H13 ⟨rfl, x14, rfl, h⟩ -
  show Fr mX12_greatest (d + 1) 0 0 none 17 [(0, (2, v0)), (1, (0, v1))] [(0, x14), (0, ((H ((H (v0 : Int).toNat 10) : Int).toNat (v1 : Int).toNat) * (H ((H (v0 : Int).toNat 14) : Int).toNat (v1 : Int).toNat)))] _ H13 _
  obtain ⟨h15, h⟩ := h
  refine r_iadd dX12_greatest_17 h15 ?_
  exact r_iret dX12_greatest_18 rfl ⟨rfl, _, rfl, h⟩
set_option maxRecDepth 20000 in
theorem eX12_greatest {d : Nat} {K : Shp} {H : Mem} {q : Int → Mem → Prop} {v0 v1 : Int} (h : inI v1 → Rng K H → FX12_greatest_0 d K H q v0 v1) : Ci mX12_greatest (d + 1) [(2, v0), (0, v1)] K H q := Call.of rfl (Nat.le_of_ble_eq_true rfl) (fun o r => h (o (0, v1) (by simp)) r)
def FX12_told_0 (d : Nat) (K : Shp) (H : Mem) (q : Int → Mem → Prop) (v0 : Int) (v1 : Int) (v2 : Int) : Prop := Fr mX12_told (d + 1) 0 0 none 0 [(0, (2, v0)), (1, (0, v1)), (2, (0, v2))] [] K H (qi K q)
set_option maxRecDepth 20000 in
theorem bX12_told_0 {d : Nat} {K : Shp} {H : Mem} {q : Int → Mem → Prop} {v0 v1 v2 : Int} (h : Ci mX12_isSection d [(0, v1)] K H (fun x2 H1 => ((¬ (x2 : Int) = 0 → (((v2 : Int) < 0 → ((0 : Int) ≤ v0) ∧ (K[(v0 : Int).toNat]? = some (12, 51)) ∧ Ci mX12_refuse d [(2, v0), (0, 2)] K H1 (fun x8 H7 => q x8 H7)) ∧ (¬ (v2 : Int) < 0 → (((v2 : Int) ≤ 6 → ((0 : Int) ≤ v0) ∧ (K[(v0 : Int).toNat]? = some (12, 51)) ∧ ∀ H12 : Mem, H12 = upA H1 (v0 : Int).toNat (up1 (H1 (v0 : Int).toNat) 0 0) → Cv mX12_asTold d [(2, v0), (0, v1)] K H12 (fun H13 => ((v2 = 0 → ((0 : Int) ≤ (H13 (v0 : Int).toNat 10)) ∧ ∃ n16 : Nat, (K[((H13 (v0 : Int).toNat 10) : Int).toNat]? = some (20, n16)) ∧ ((0 : Int) ≤ v1) ∧ ((v1 : Int) < n16) ∧ q (H13 ((H13 (v0 : Int).toNat 10) : Int).toNat (v1 : Int).toNat) H13) ∧ (v2 = 1 → ((0 : Int) ≤ (H13 (v0 : Int).toNat 11)) ∧ ∃ n21 : Nat, (K[((H13 (v0 : Int).toNat 11) : Int).toNat]? = some (20, n21)) ∧ ((0 : Int) ≤ v1) ∧ ((v1 : Int) < n21) ∧ q (H13 ((H13 (v0 : Int).toNat 11) : Int).toNat (v1 : Int).toNat) H13) ∧ (v2 = 2 → ((0 : Int) ≤ (H13 (v0 : Int).toNat 12)) ∧ ∃ n26 : Nat, (K[((H13 (v0 : Int).toNat 12) : Int).toNat]? = some (20, n26)) ∧ ((0 : Int) ≤ v1) ∧ ((v1 : Int) < n26) ∧ q (H13 ((H13 (v0 : Int).toNat 12) : Int).toNat (v1 : Int).toNat) H13) ∧ (v2 = 3 → ((0 : Int) ≤ (H13 (v0 : Int).toNat 13)) ∧ ∃ n31 : Nat, (K[((H13 (v0 : Int).toNat 13) : Int).toNat]? = some (20, n31)) ∧ ((0 : Int) ≤ v1) ∧ ((v1 : Int) < n31) ∧ q (H13 ((H13 (v0 : Int).toNat 13) : Int).toNat (v1 : Int).toNat) H13) ∧ (v2 = 4 → ((0 : Int) ≤ (H13 (v0 : Int).toNat 14)) ∧ ∃ n36 : Nat, (K[((H13 (v0 : Int).toNat 14) : Int).toNat]? = some (20, n36)) ∧ ((0 : Int) ≤ v1) ∧ ((v1 : Int) < n36) ∧ q (H13 ((H13 (v0 : Int).toNat 14) : Int).toNat (v1 : Int).toNat) H13) ∧ (v2 = 5 → Ci mX12_greatest d [(2, v0), (0, v1)] K H13 (fun x41 H40 => q x41 H40)) ∧ ((v2 < 0 ∨ 5 < v2) → Ci mX12_pulls d [(2, v0)] K H13 (fun x43 H42 => (inI (-x43)) ∧ q (-x43) H42))))) ∧ (¬ (v2 : Int) ≤ 6 → ((0 : Int) ≤ v0) ∧ (K[(v0 : Int).toNat]? = some (12, 51)) ∧ Ci mX12_refuse d [(2, v0), (0, 2)] K H1 (fun x48 H47 => q x48 H47)))))) ∧ ((x2 : Int) = 0 → ((0 : Int) ≤ v0) ∧ (K[(v0 : Int).toNat]? = some (12, 51)) ∧ Ci mX12_refuse d [(2, v0), (0, 1)] K H1 (fun x52 H51 => q x52 H51))))) : FX12_told_0 d K H q (v0) (v1) (v2) := by
  unfold FX12_told_0
  refine r_iload_n 1 dX12_told_0 rfl rfl ?_
  refine r_invS (M := mX12_told) (As := [(0, v1)]) (st := []) (mc := 0) (ms := 0) (fc := 0) (fs := 0) h ok_X12_isSection sm_X12_isSection ml_RX12_177 dX12_told_1 rfl (Nat.le_of_ble_eq_true rfl) rfl ?_
  rintro r K1 H1 ⟨rfl, x2, rfl, h⟩ -
  show Fr mX12_told (d + 1) 0 0 none 4 [(0, (2, v0)), (1, (0, v1)), (2, (0, v2))] [(0, x2)] _ H1 _
  refine r_if_ne (tgt := 13) dX12_told_4 (by decide) (fun c3 => ?_) (fun c3 => ?_)
  · replace h := h.1 c3
    refine r_iload_n 2 dX12_told_13 rfl rfl ?_
    refine r_if_lt (tgt := 23) dX12_told_14 (by decide) (fun c4 => ?_) (fun c4 => ?_)
    · replace h := h.1 c4
      refine r_aload_n 0 dX12_told_23 rfl rfl ?_
      refine r_iconst dX12_told_24 (by decide) (by decide) ?_
      obtain ⟨h5, h⟩ := h
      obtain ⟨h6, h⟩ := h
      refine r_invV (M := mX12_told) (As := [(0, 2)]) (st := []) (X := v0) (mc := 0) (ms := 0) (fc := 0) (fs := 0) h ok_X12_refuse cls12 im_X12_refuse se_X12_refuse ml_RX12_184 dX12_told_25 rfl h5 h6 (Nat.le_of_ble_eq_true rfl) rfl ?_
      rintro r K1 H7 ⟨rfl, x8, rfl, h⟩ -
      show Fr mX12_told (d + 1) 0 0 none 28 [(0, (2, v0)), (1, (0, v1)), (2, (0, v2))] [(0, x8)] _ H7 _
      exact r_iret dX12_told_28 rfl ⟨rfl, _, rfl, h⟩
    · replace h := h.2 c4
      refine r_iload_n 2 dX12_told_17 rfl rfl ?_
      refine r_bipush dX12_told_18 (by decide) (by decide) ?_
      refine r_icmp_le (tgt := 29) dX12_told_20 (by decide) (fun c9 => ?_) (fun c9 => ?_)
      · replace h := h.1 c9
        refine r_aload_n 0 dX12_told_29 rfl rfl ?_
        refine r_iconst dX12_told_30 (by decide) (by decide) ?_
        obtain ⟨h10, h⟩ := h
        obtain ⟨h11, h⟩ := h
        refine r_putf cls12 0 dX12_told_31 (by decide) rfl fl_RX12_89 rfl h10 h11 (fun o => o) ?_
        replace h := h _ rfl
        generalize upA H1 (v0 : Int).toNat (up1 (H1 (v0 : Int).toNat) 0 0) = H12 at h ⊢
        refine r_aload_n 0 dX12_told_34 rfl rfl ?_
        refine r_iload_n 1 dX12_told_35 rfl rfl ?_
        refine r_invV (M := mX12_told) (As := [(0, v1)]) (st := []) (X := v0) (mc := 0) (ms := 0) (fc := 0) (fs := 0) h ok_X12_asTold cls12 im_X12_asTold se_X12_asTold ml_RX12_195 dX12_told_36 rfl h10 h11 (Nat.le_of_ble_eq_true rfl) rfl ?_
        rintro r K1 H13 ⟨rfl, rfl, h⟩ -
        show Fr mX12_told (d + 1) 0 0 none 39 [(0, (2, v0)), (1, (0, v1)), (2, (0, v2))] [] _ H13 _
        refine r_iload_n 2 dX12_told_39 rfl rfl ?_
        refine r_table (dt := 121) dX12_told_40 (by decide) (fun j hj1 hj2 hj => ?_) (fun hj => ?_)
        · rcases (show j = 0 ∨ j = 1 ∨ j = 2 ∨ j = 3 ∨ j = 4 ∨ j = 5 by omega) with rfl | rfl | rfl | rfl | rfl | rfl
          · refine ⟨_, 80, rfl, by decide, ?_⟩
            replace h := h.1 hj
            refine r_aload_n 0 dX12_told_80 rfl rfl ?_
            refine r_getf cls12 10 dX12_told_81 (by decide) fl_RX12_25 rfl h10 h11 ?_
            refine r_iload_n 1 dX12_told_84 rfl rfl ?_
            obtain ⟨h15, h⟩ := h
            obtain ⟨n16, h⟩ := h
            obtain ⟨h17, h⟩ := h
            obtain ⟨h18, h⟩ := h
            obtain ⟨h19, h⟩ := h
            refine r_iald n16 dX12_told_85 h15 h17 h18 h19 ?_
            exact r_iret dX12_told_86 rfl ⟨rfl, _, rfl, h⟩
          · refine ⟨_, 87, rfl, by decide, ?_⟩
            replace h := h.2.1 hj
            refine r_aload_n 0 dX12_told_87 rfl rfl ?_
            refine r_getf cls12 11 dX12_told_88 (by decide) fl_RX12_28 rfl h10 h11 ?_
            refine r_iload_n 1 dX12_told_91 rfl rfl ?_
            obtain ⟨h20, h⟩ := h
            obtain ⟨n21, h⟩ := h
            obtain ⟨h22, h⟩ := h
            obtain ⟨h23, h⟩ := h
            obtain ⟨h24, h⟩ := h
            refine r_iald n21 dX12_told_92 h20 h22 h23 h24 ?_
            exact r_iret dX12_told_93 rfl ⟨rfl, _, rfl, h⟩
          · refine ⟨_, 94, rfl, by decide, ?_⟩
            replace h := h.2.2.1 hj
            refine r_aload_n 0 dX12_told_94 rfl rfl ?_
            refine r_getf cls12 12 dX12_told_95 (by decide) fl_RX12_31 rfl h10 h11 ?_
            refine r_iload_n 1 dX12_told_98 rfl rfl ?_
            obtain ⟨h25, h⟩ := h
            obtain ⟨n26, h⟩ := h
            obtain ⟨h27, h⟩ := h
            obtain ⟨h28, h⟩ := h
            obtain ⟨h29, h⟩ := h
            refine r_iald n26 dX12_told_99 h25 h27 h28 h29 ?_
            exact r_iret dX12_told_100 rfl ⟨rfl, _, rfl, h⟩
          · refine ⟨_, 101, rfl, by decide, ?_⟩
            replace h := h.2.2.2.1 hj
            refine r_aload_n 0 dX12_told_101 rfl rfl ?_
            refine r_getf cls12 13 dX12_told_102 (by decide) fl_RX12_34 rfl h10 h11 ?_
            refine r_iload_n 1 dX12_told_105 rfl rfl ?_
            obtain ⟨h30, h⟩ := h
            obtain ⟨n31, h⟩ := h
            obtain ⟨h32, h⟩ := h
            obtain ⟨h33, h⟩ := h
            obtain ⟨h34, h⟩ := h
            refine r_iald n31 dX12_told_106 h30 h32 h33 h34 ?_
            exact r_iret dX12_told_107 rfl ⟨rfl, _, rfl, h⟩
          · refine ⟨_, 108, rfl, by decide, ?_⟩
            replace h := h.2.2.2.2.1 hj
            refine r_aload_n 0 dX12_told_108 rfl rfl ?_
            refine r_getf cls12 14 dX12_told_109 (by decide) fl_RX12_37 rfl h10 h11 ?_
            refine r_iload_n 1 dX12_told_112 rfl rfl ?_
            obtain ⟨h35, h⟩ := h
            obtain ⟨n36, h⟩ := h
            obtain ⟨h37, h⟩ := h
            obtain ⟨h38, h⟩ := h
            obtain ⟨h39, h⟩ := h
            refine r_iald n36 dX12_told_113 h35 h37 h38 h39 ?_
            exact r_iret dX12_told_114 rfl ⟨rfl, _, rfl, h⟩
          · refine ⟨_, 115, rfl, by decide, ?_⟩
            replace h := h.2.2.2.2.2.1 hj
            refine r_aload_n 0 dX12_told_115 rfl rfl ?_
            refine r_iload_n 1 dX12_told_116 rfl rfl ?_
            refine r_invV (M := mX12_told) (As := [(0, v1)]) (st := []) (X := v0) (mc := 0) (ms := 0) (fc := 0) (fs := 0) h ok_X12_greatest cls12 im_X12_greatest se_X12_greatest ml_RX12_198 dX12_told_117 rfl h10 h11 (Nat.le_of_ble_eq_true rfl) rfl ?_
            rintro r K1 H40 ⟨rfl, x41, rfl, h⟩ -
            show Fr mX12_told (d + 1) 0 0 none 120 [(0, (2, v0)), (1, (0, v1)), (2, (0, v2))] [(0, x41)] _ H40 _
            exact r_iret dX12_told_120 rfl ⟨rfl, _, rfl, h⟩
        · replace h := h.2.2.2.2.2.2 hj
          refine r_aload_n 0 dX12_told_121 rfl rfl ?_
          refine r_invV (M := mX12_told) (As := []) (st := []) (X := v0) (mc := 0) (ms := 0) (fc := 0) (fs := 0) h ok_X12_pulls cls12 im_X12_pulls se_X12_pulls ml_RX12_191 dX12_told_122 rfl h10 h11 (Nat.le_of_ble_eq_true rfl) rfl ?_
          rintro r K1 H42 ⟨rfl, x43, rfl, h⟩ -
          show Fr mX12_told (d + 1) 0 0 none 125 [(0, (2, v0)), (1, (0, v1)), (2, (0, v2))] [(0, x43)] _ H42 _
          obtain ⟨h44, h⟩ := h
          refine r_ineg dX12_told_125 h44 ?_
          exact r_iret dX12_told_126 rfl ⟨rfl, _, rfl, h⟩
      · replace h := h.2 c9
        refine r_aload_n 0 dX12_told_23 rfl rfl ?_
        refine r_iconst dX12_told_24 (by decide) (by decide) ?_
        obtain ⟨h45, h⟩ := h
        obtain ⟨h46, h⟩ := h
        refine r_invV (M := mX12_told) (As := [(0, 2)]) (st := []) (X := v0) (mc := 0) (ms := 0) (fc := 0) (fs := 0) h ok_X12_refuse cls12 im_X12_refuse se_X12_refuse ml_RX12_184 dX12_told_25 rfl h45 h46 (Nat.le_of_ble_eq_true rfl) rfl ?_
        rintro r K1 H47 ⟨rfl, x48, rfl, h⟩ -
        show Fr mX12_told (d + 1) 0 0 none 28 [(0, (2, v0)), (1, (0, v1)), (2, (0, v2))] [(0, x48)] _ H47 _
        exact r_iret dX12_told_28 rfl ⟨rfl, _, rfl, h⟩
  · replace h := h.2 c3
    refine r_aload_n 0 dX12_told_7 rfl rfl ?_
    refine r_iconst dX12_told_8 (by decide) (by decide) ?_
    obtain ⟨h49, h⟩ := h
    obtain ⟨h50, h⟩ := h
    refine r_invV (M := mX12_told) (As := [(0, 1)]) (st := []) (X := v0) (mc := 0) (ms := 0) (fc := 0) (fs := 0) h ok_X12_refuse cls12 im_X12_refuse se_X12_refuse ml_RX12_184 dX12_told_9 rfl h49 h50 (Nat.le_of_ble_eq_true rfl) rfl ?_
    rintro r K1 H51 ⟨rfl, x52, rfl, h⟩ -
    show Fr mX12_told (d + 1) 0 0 none 12 [(0, (2, v0)), (1, (0, v1)), (2, (0, v2))] [(0, x52)] _ H51 _
    exact r_iret dX12_told_12 rfl ⟨rfl, _, rfl, h⟩
set_option maxRecDepth 20000 in
theorem eX12_told {d : Nat} {K : Shp} {H : Mem} {q : Int → Mem → Prop} {v0 v1 v2 : Int} (h : inI v1 → inI v2 → Rng K H → FX12_told_0 d K H q v0 v1 v2) : Ci mX12_told (d + 1) [(2, v0), (0, v1), (0, v2)] K H q := Call.of rfl (Nat.le_of_ble_eq_true rfl) (fun o r => h (o (0, v1) (by simp)) (o (0, v2) (by simp)) r)
def FX12_strength_0 (d : Nat) (K : Shp) (H : Mem) (q : Int → Mem → Prop) (v0 : Int) (v1 : Int) (v2 : Int) : Prop := Fr mX12_strength (d + 1) 0 0 none 0 [(0, (2, v0)), (1, (0, v1)), (2, (0, v2))] [] K H (qi K q)
set_option maxRecDepth 20000 in
theorem bX12_strength_0 {d : Nat} {K : Shp} {H : Mem} {q : Int → Mem → Prop} {v0 v1 v2 : Int} (h : ((0 : Int) ≤ v0) ∧ (K[(v0 : Int).toNat]? = some (12, 51)) ∧ Ci mX12_isRod d [(2, v0), (0, v1), (0, v2)] K H (fun x4 H3 => ((¬ (x4 : Int) = 0 → ∀ H6 : Mem, H6 = upA H3 (v0 : Int).toNat (up1 (H3 (v0 : Int).toNat) 0 0) → (inI (6 * v1)) ∧ (inI ((6 * v1) + v2)) ∧ ((0 : Int) ≤ (H6 (v0 : Int).toNat 17)) ∧ ∃ n10 : Nat, (K[((H6 (v0 : Int).toNat 17) : Int).toNat]? = some (20, n10)) ∧ ((0 : Int) ≤ ((6 * v1) + v2)) ∧ ((((6 * v1) + v2) : Int) < n10) ∧ q (H6 ((H6 (v0 : Int).toNat 17) : Int).toNat (((6 * v1) + v2) : Int).toNat) H6) ∧ ((x4 : Int) = 0 → Ci mX12_refuse d [(2, v0), (0, 1)] K H3 (fun x15 H14 => q x15 H14))))) : FX12_strength_0 d K H q (v0) (v1) (v2) := by
  unfold FX12_strength_0
  refine r_aload_n 0 dX12_strength_0 rfl rfl ?_
  refine r_iload_n 1 dX12_strength_1 rfl rfl ?_
  refine r_iload_n 2 dX12_strength_2 rfl rfl ?_
  obtain ⟨h1, h⟩ := h
  obtain ⟨h2, h⟩ := h
  refine r_invV (M := mX12_strength) (As := [(0, v1), (0, v2)]) (st := []) (X := v0) (mc := 0) (ms := 0) (fc := 0) (fs := 0) h ok_X12_isRod cls12 im_X12_isRod se_X12_isRod ml_RX12_187 dX12_strength_3 rfl h1 h2 (Nat.le_of_ble_eq_true rfl) rfl ?_
  rintro r K1 H3 ⟨rfl, x4, rfl, h⟩ -
  show Fr mX12_strength (d + 1) 0 0 none 6 [(0, (2, v0)), (1, (0, v1)), (2, (0, v2))] [(0, x4)] _ H3 _
  refine r_if_ne (tgt := 15) dX12_strength_6 (by decide) (fun c5 => ?_) (fun c5 => ?_)
  · replace h := h.1 c5
    refine r_aload_n 0 dX12_strength_15 rfl rfl ?_
    refine r_iconst dX12_strength_16 (by decide) (by decide) ?_
    refine r_putf cls12 0 dX12_strength_17 (by decide) rfl fl_RX12_89 rfl h1 h2 (fun o => o) ?_
    replace h := h _ rfl
    generalize upA H3 (v0 : Int).toNat (up1 (H3 (v0 : Int).toNat) 0 0) = H6 at h ⊢
    refine r_aload_n 0 dX12_strength_20 rfl rfl ?_
    refine r_getf cls12 17 dX12_strength_21 (by decide) fl_RX12_46 rfl h1 h2 ?_
    refine r_bipush dX12_strength_24 (by decide) (by decide) ?_
    refine r_iload_n 1 dX12_strength_26 rfl rfl ?_
    obtain ⟨h7, h⟩ := h
    refine r_imul dX12_strength_27 h7 ?_
    refine r_iload_n 2 dX12_strength_28 rfl rfl ?_
    obtain ⟨h8, h⟩ := h
    refine r_iadd dX12_strength_29 h8 ?_
    obtain ⟨h9, h⟩ := h
    obtain ⟨n10, h⟩ := h
    obtain ⟨h11, h⟩ := h
    obtain ⟨h12, h⟩ := h
    obtain ⟨h13, h⟩ := h
    refine r_iald n10 dX12_strength_30 h9 h11 h12 h13 ?_
    exact r_iret dX12_strength_31 rfl ⟨rfl, _, rfl, h⟩
  · replace h := h.2 c5
    refine r_aload_n 0 dX12_strength_9 rfl rfl ?_
    refine r_iconst dX12_strength_10 (by decide) (by decide) ?_
    refine r_invV (M := mX12_strength) (As := [(0, 1)]) (st := []) (X := v0) (mc := 0) (ms := 0) (fc := 0) (fs := 0) h ok_X12_refuse cls12 im_X12_refuse se_X12_refuse ml_RX12_184 dX12_strength_11 rfl h1 h2 (Nat.le_of_ble_eq_true rfl) rfl ?_
    rintro r K1 H14 ⟨rfl, x15, rfl, h⟩ -
    show Fr mX12_strength (d + 1) 0 0 none 14 [(0, (2, v0)), (1, (0, v1)), (2, (0, v2))] [(0, x15)] _ H14 _
    exact r_iret dX12_strength_14 rfl ⟨rfl, _, rfl, h⟩
set_option maxRecDepth 20000 in
theorem eX12_strength {d : Nat} {K : Shp} {H : Mem} {q : Int → Mem → Prop} {v0 v1 v2 : Int} (h : inI v1 → inI v2 → Rng K H → FX12_strength_0 d K H q v0 v1 v2) : Ci mX12_strength (d + 1) [(2, v0), (0, v1), (0, v2)] K H q := Call.of rfl (Nat.le_of_ble_eq_true rfl) (fun o r => h (o (0, v1) (by simp)) (o (0, v2) (by simp)) r)
def FX12_width_0 (d : Nat) (K : Shp) (H : Mem) (q : Int → Mem → Prop) (v0 : Int) (v1 : Int) (v2 : Int) : Prop := Fr mX12_width (d + 1) 0 0 none 0 [(0, (2, v0)), (1, (0, v1)), (2, (0, v2))] [] K H (qi K q)
set_option maxRecDepth 20000 in
theorem bX12_width_0 {d : Nat} {K : Shp} {H : Mem} {q : Int → Mem → Prop} {v0 v1 v2 : Int} (h : Ci mX12_isSection d [(0, v1)] K H (fun x2 H1 => ((¬ (x2 : Int) = 0 → (((v2 : Int) < 0 → ((0 : Int) ≤ v0) ∧ (K[(v0 : Int).toNat]? = some (12, 51)) ∧ Ci mX12_refuse d [(2, v0), (0, 2)] K H1 (fun x8 H7 => q x8 H7)) ∧ (¬ (v2 : Int) < 0 → (((v2 : Int) < 100 → ((0 : Int) ≤ v0) ∧ (K[(v0 : Int).toNat]? = some (12, 51)) ∧ ∀ H12 : Mem, H12 = upA H1 (v0 : Int).toNat (up1 (H1 (v0 : Int).toNat) 0 0) → (inI (100 * v1)) ∧ (inI ((100 * v1) + v2)) ∧ ((0 : Int) ≤ (H12 (v0 : Int).toNat 15)) ∧ ∃ n16 : Nat, (K[((H12 (v0 : Int).toNat 15) : Int).toNat]? = some (20, n16)) ∧ ((0 : Int) ≤ ((100 * v1) + v2)) ∧ ((((100 * v1) + v2) : Int) < n16) ∧ q (H12 ((H12 (v0 : Int).toNat 15) : Int).toNat (((100 * v1) + v2) : Int).toNat) H12) ∧ (¬ (v2 : Int) < 100 → ((0 : Int) ≤ v0) ∧ (K[(v0 : Int).toNat]? = some (12, 51)) ∧ Ci mX12_refuse d [(2, v0), (0, 2)] K H1 (fun x23 H22 => q x23 H22)))))) ∧ ((x2 : Int) = 0 → ((0 : Int) ≤ v0) ∧ (K[(v0 : Int).toNat]? = some (12, 51)) ∧ Ci mX12_refuse d [(2, v0), (0, 1)] K H1 (fun x27 H26 => q x27 H26))))) : FX12_width_0 d K H q (v0) (v1) (v2) := by
  unfold FX12_width_0
  refine r_iload_n 1 dX12_width_0 rfl rfl ?_
  refine r_invS (M := mX12_width) (As := [(0, v1)]) (st := []) (mc := 0) (ms := 0) (fc := 0) (fs := 0) h ok_X12_isSection sm_X12_isSection ml_RX12_177 dX12_width_1 rfl (Nat.le_of_ble_eq_true rfl) rfl ?_
  rintro r K1 H1 ⟨rfl, x2, rfl, h⟩ -
  show Fr mX12_width (d + 1) 0 0 none 4 [(0, (2, v0)), (1, (0, v1)), (2, (0, v2))] [(0, x2)] _ H1 _
  refine r_if_ne (tgt := 13) dX12_width_4 (by decide) (fun c3 => ?_) (fun c3 => ?_)
  · replace h := h.1 c3
    refine r_iload_n 2 dX12_width_13 rfl rfl ?_
    refine r_if_lt (tgt := 23) dX12_width_14 (by decide) (fun c4 => ?_) (fun c4 => ?_)
    · replace h := h.1 c4
      refine r_aload_n 0 dX12_width_23 rfl rfl ?_
      refine r_iconst dX12_width_24 (by decide) (by decide) ?_
      obtain ⟨h5, h⟩ := h
      obtain ⟨h6, h⟩ := h
      refine r_invV (M := mX12_width) (As := [(0, 2)]) (st := []) (X := v0) (mc := 0) (ms := 0) (fc := 0) (fs := 0) h ok_X12_refuse cls12 im_X12_refuse se_X12_refuse ml_RX12_184 dX12_width_25 rfl h5 h6 (Nat.le_of_ble_eq_true rfl) rfl ?_
      rintro r K1 H7 ⟨rfl, x8, rfl, h⟩ -
      show Fr mX12_width (d + 1) 0 0 none 28 [(0, (2, v0)), (1, (0, v1)), (2, (0, v2))] [(0, x8)] _ H7 _
      exact r_iret dX12_width_28 rfl ⟨rfl, _, rfl, h⟩
    · replace h := h.2 c4
      refine r_iload_n 2 dX12_width_17 rfl rfl ?_
      refine r_bipush dX12_width_18 (by decide) (by decide) ?_
      refine r_icmp_lt (tgt := 29) dX12_width_20 (by decide) (fun c9 => ?_) (fun c9 => ?_)
      · replace h := h.1 c9
        refine r_aload_n 0 dX12_width_29 rfl rfl ?_
        refine r_iconst dX12_width_30 (by decide) (by decide) ?_
        obtain ⟨h10, h⟩ := h
        obtain ⟨h11, h⟩ := h
        refine r_putf cls12 0 dX12_width_31 (by decide) rfl fl_RX12_89 rfl h10 h11 (fun o => o) ?_
        replace h := h _ rfl
        generalize upA H1 (v0 : Int).toNat (up1 (H1 (v0 : Int).toNat) 0 0) = H12 at h ⊢
        refine r_aload_n 0 dX12_width_34 rfl rfl ?_
        refine r_getf cls12 15 dX12_width_35 (by decide) fl_RX12_40 rfl h10 h11 ?_
        refine r_bipush dX12_width_38 (by decide) (by decide) ?_
        refine r_iload_n 1 dX12_width_40 rfl rfl ?_
        obtain ⟨h13, h⟩ := h
        refine r_imul dX12_width_41 h13 ?_
        refine r_iload_n 2 dX12_width_42 rfl rfl ?_
        obtain ⟨h14, h⟩ := h
        refine r_iadd dX12_width_43 h14 ?_
        obtain ⟨h15, h⟩ := h
        obtain ⟨n16, h⟩ := h
        obtain ⟨h17, h⟩ := h
        obtain ⟨h18, h⟩ := h
        obtain ⟨h19, h⟩ := h
        refine r_iald n16 dX12_width_44 h15 h17 h18 h19 ?_
        exact r_iret dX12_width_45 rfl ⟨rfl, _, rfl, h⟩
      · replace h := h.2 c9
        refine r_aload_n 0 dX12_width_23 rfl rfl ?_
        refine r_iconst dX12_width_24 (by decide) (by decide) ?_
        obtain ⟨h20, h⟩ := h
        obtain ⟨h21, h⟩ := h
        refine r_invV (M := mX12_width) (As := [(0, 2)]) (st := []) (X := v0) (mc := 0) (ms := 0) (fc := 0) (fs := 0) h ok_X12_refuse cls12 im_X12_refuse se_X12_refuse ml_RX12_184 dX12_width_25 rfl h20 h21 (Nat.le_of_ble_eq_true rfl) rfl ?_
        rintro r K1 H22 ⟨rfl, x23, rfl, h⟩ -
        show Fr mX12_width (d + 1) 0 0 none 28 [(0, (2, v0)), (1, (0, v1)), (2, (0, v2))] [(0, x23)] _ H22 _
        exact r_iret dX12_width_28 rfl ⟨rfl, _, rfl, h⟩
  · replace h := h.2 c3
    refine r_aload_n 0 dX12_width_7 rfl rfl ?_
    refine r_iconst dX12_width_8 (by decide) (by decide) ?_
    obtain ⟨h24, h⟩ := h
    obtain ⟨h25, h⟩ := h
    refine r_invV (M := mX12_width) (As := [(0, 1)]) (st := []) (X := v0) (mc := 0) (ms := 0) (fc := 0) (fs := 0) h ok_X12_refuse cls12 im_X12_refuse se_X12_refuse ml_RX12_184 dX12_width_9 rfl h24 h25 (Nat.le_of_ble_eq_true rfl) rfl ?_
    rintro r K1 H26 ⟨rfl, x27, rfl, h⟩ -
    show Fr mX12_width (d + 1) 0 0 none 12 [(0, (2, v0)), (1, (0, v1)), (2, (0, v2))] [(0, x27)] _ H26 _
    exact r_iret dX12_width_12 rfl ⟨rfl, _, rfl, h⟩
set_option maxRecDepth 20000 in
theorem eX12_width {d : Nat} {K : Shp} {H : Mem} {q : Int → Mem → Prop} {v0 v1 v2 : Int} (h : inI v1 → inI v2 → Rng K H → FX12_width_0 d K H q v0 v1 v2) : Ci mX12_width (d + 1) [(2, v0), (0, v1), (0, v2)] K H q := Call.of rfl (Nat.le_of_ble_eq_true rfl) (fun o r => h (o (0, v1) (by simp)) (o (0, v2) (by simp)) r)
def FX12_at_0 (d : Nat) (K : Shp) (H : Mem) (q : Int → Mem → Prop) (v0 : Int) (v1 : Int) (v2 : Int) : Prop := Fr mX12_at d 0 0 none 0 [(0, (2, v0)), (1, (0, v1)), (2, (0, v2))] [] K H (ql K q)
def FX12_at_5 (d : Nat) (K : Shp) (H : Mem) (q : Int → Mem → Prop) (v0 : Int) (v1 : Int) (v2 : Int) (v3 : Int) (v5 : Int) : Prop := Fr mX12_at d 0 0 none 5 [(0, (2, v0)), (1, (0, v1)), (2, (0, v2)), (3, (1, v3)), (5, (0, v5))] [] K H (ql K q)
set_option maxRecDepth 20000 in
theorem bX12_at_0 {d : Nat} {K : Shp} {H : Mem} {q : Int → Mem → Prop} {v0 v1 v2 : Int} (h : FX12_at_5 d K H q (v0) (v1) (v2) (0) (0)) : FX12_at_0 d K H q (v0) (v1) (v2) := by
  unfold FX12_at_0
  refine r_lconst0 dX12_at_0 ?_
  refine r_lstore_n dX12_at_1 rfl (by decide) rfl ?_
  refine r_iconst dX12_at_2 (by decide) (by decide) ?_
  refine r_istore dX12_at_3 (by decide) rfl ?_
  refine Fr.fewer [2, 3, 4, 1, 0] rfl ?_
  exact h
set_option maxRecDepth 20000 in
theorem bX12_at_5 {d : Nat} {K : Shp} {H : Mem} {q : Int → Mem → Prop} {v0 v1 v2 v3 v5 : Int} (h : ((0 : Int) ≤ v0) ∧ (K[(v0 : Int).toNat]? = some (12, 51)) ∧ ((0 : Int) ≤ (H (v0 : Int).toNat 13)) ∧ ∃ n4 : Nat, (K[((H (v0 : Int).toNat 13) : Int).toNat]? = some (20, n4)) ∧ ((0 : Int) ≤ v1) ∧ ((v1 : Int) < n4) ∧ ((¬ (v5 : Int) < (H ((H (v0 : Int).toNat 13) : Int).toNat (v1 : Int).toNat) → q v3 H) ∧ ((v5 : Int) < (H ((H (v0 : Int).toNat 13) : Int).toNat (v1 : Int).toNat) → (inI (6 * v1)) ∧ (inI ((6 * v1) + v5)) ∧ ((0 : Int) ≤ (H (v0 : Int).toNat 16)) ∧ ∃ n12 : Nat, (K[((H (v0 : Int).toNat 16) : Int).toNat]? = some (20, n12)) ∧ ((0 : Int) ≤ ((6 * v1) + v5)) ∧ ((((6 * v1) + v5) : Int) < n12) ∧ ((¬ ((H ((H (v0 : Int).toNat 16) : Int).toNat (((6 * v1) + v5) : Int).toNat) : Int) = v2 → (inL (v3 + 0)) ∧ (inI (v5 + 1)) ∧ FX12_at_5 d K H q (v0) (v1) (v2) ((v3 + 0)) ((v5 + 1))) ∧ (((H ((H (v0 : Int).toNat 16) : Int).toNat (((6 * v1) + v5) : Int).toNat) : Int) = v2 → ((0 : Int) ≤ (H (v0 : Int).toNat 18)) ∧ ∃ n20 : Nat, (K[((H (v0 : Int).toNat 18) : Int).toNat]? = some (20, n20)) ∧ ((0 : Int) ≤ v5) ∧ ((v5 : Int) < n20) ∧ (inL (v3 + (H ((H (v0 : Int).toNat 18) : Int).toNat (v5 : Int).toNat))) ∧ (inI (v5 + 1)) ∧ FX12_at_5 d K H q (v0) (v1) (v2) ((v3 + (H ((H (v0 : Int).toNat 18) : Int).toNat (v5 : Int).toNat))) ((v5 + 1))))))) : FX12_at_5 d K H q (v0) (v1) (v2) (v3) (v5) := by
  unfold FX12_at_5
  refine r_iload 4 dX12_at_5 rfl ?_
  refine r_aload_n 0 dX12_at_7 rfl rfl ?_
  obtain ⟨h1, h⟩ := h
  obtain ⟨h2, h⟩ := h
  refine r_getf cls12 13 dX12_at_8 (by decide) fl_RX12_34 rfl h1 h2 ?_
  refine r_iload_n 1 dX12_at_11 rfl rfl ?_
  obtain ⟨h3, h⟩ := h
  obtain ⟨n4, h⟩ := h
  obtain ⟨h5, h⟩ := h
  obtain ⟨h6, h⟩ := h
  obtain ⟨h7, h⟩ := h
  refine r_iald n4 dX12_at_12 h3 h5 h6 h7 ?_
  refine r_icmp_ge (tgt := 53) dX12_at_13 (by decide) (fun c8 => ?_) (fun c8 => ?_)
  · replace h := h.1 c8
    refine r_lload_n 3 dX12_at_53 rfl rfl ?_
    exact r_lret dX12_at_54 rfl ⟨rfl, _, rfl, h⟩
  · replace h := h.2 c8
    refine r_lload_n 3 dX12_at_16 rfl rfl ?_
    refine r_aload_n 0 dX12_at_17 rfl rfl ?_
    refine r_getf cls12 16 dX12_at_18 (by decide) fl_RX12_43 rfl h1 h2 ?_
    refine r_bipush dX12_at_21 (by decide) (by decide) ?_
    refine r_iload_n 1 dX12_at_23 rfl rfl ?_
    obtain ⟨h9, h⟩ := h
    refine r_imul dX12_at_24 h9 ?_
    refine r_iload 4 dX12_at_25 rfl ?_
    obtain ⟨h10, h⟩ := h
    refine r_iadd dX12_at_27 h10 ?_
    obtain ⟨h11, h⟩ := h
    obtain ⟨n12, h⟩ := h
    obtain ⟨h13, h⟩ := h
    obtain ⟨h14, h⟩ := h
    obtain ⟨h15, h⟩ := h
    refine r_iald n12 dX12_at_28 h11 h13 h14 h15 ?_
    refine r_iload_n 2 dX12_at_29 rfl rfl ?_
    refine r_icmp_ne (tgt := 44) dX12_at_30 (by decide) (fun c16 => ?_) (fun c16 => ?_)
    · replace h := h.1 c16
      refine r_lconst0 dX12_at_44 ?_
      obtain ⟨h17, h⟩ := h
      refine r_ladd dX12_at_45 h17 ?_
      refine r_lstore_n dX12_at_46 rfl (by decide) rfl ?_
      obtain ⟨h18, h⟩ := h
      refine r_iinc 4 dX12_at_47 (by decide) rfl h18 rfl ?_
      refine r_goto (tgt := 5) dX12_at_50 (by decide) ?_
      refine Fr.fewer [2, 3, 4, 1, 0] rfl ?_
      exact h
    · replace h := h.2 c16
      refine r_aload_n 0 dX12_at_33 rfl rfl ?_
      refine r_getf cls12 18 dX12_at_34 (by decide) fl_RX12_49 rfl h1 h2 ?_
      refine r_iload 4 dX12_at_37 rfl ?_
      obtain ⟨h19, h⟩ := h
      obtain ⟨n20, h⟩ := h
      obtain ⟨h21, h⟩ := h
      obtain ⟨h22, h⟩ := h
      obtain ⟨h23, h⟩ := h
      refine r_iald n20 dX12_at_39 h19 h21 h22 h23 ?_
      refine r_i2l dX12_at_40 ?_
      refine r_goto (tgt := 45) dX12_at_41 (by decide) ?_
      obtain ⟨h24, h⟩ := h
      refine r_ladd dX12_at_45 h24 ?_
      refine r_lstore_n dX12_at_46 rfl (by decide) rfl ?_
      obtain ⟨h25, h⟩ := h
      refine r_iinc 4 dX12_at_47 (by decide) rfl h25 rfl ?_
      refine r_goto (tgt := 5) dX12_at_50 (by decide) ?_
      refine Fr.fewer [2, 3, 4, 1, 0] rfl ?_
      exact h
set_option maxRecDepth 20000 in
theorem eX12_at {d : Nat} {K : Shp} {H : Mem} {q : Int → Mem → Prop} {v0 v1 v2 : Int} (h : inI v1 → inI v2 → Rng K H → FX12_at_0 d K H q v0 v1 v2) : Cl mX12_at d [(2, v0), (0, v1), (0, v2)] K H q := Call.of rfl (Nat.le_of_ble_eq_true rfl) (fun o r => h (o (0, v1) (by simp)) (o (0, v2) (by simp)) r)
