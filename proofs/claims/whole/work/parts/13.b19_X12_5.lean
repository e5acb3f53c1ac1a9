/-! printed by gen/emit.py: what a walk from each cut point asks -/
def FX12_factor_0 (d : Nat) (K : Shp) (H : Mem) (q : Int → Mem → Prop) (v0 : Int) : Prop := Fr mX12_factor (d + 1) 0 0 none 0 [(0, (2, v0))] [] K H (qi K q)
set_option maxRecDepth 20000 in
theorem bX12_factor_0 {d : Nat} {K : Shp} {H : Mem} {q : Int → Mem → Prop} {v0 : Int} (h : ((0 : Int) ≤ v0) ∧ (K[(v0 : Int).toNat]? = some (12, 51)) ∧ Ci mX12_finds d [(2, v0)] K H (fun x4 H3 => ((¬ (x4 : Int) = 0 → ∀ H6 : Mem, H6 = upA H3 (v0 : Int).toNat (up1 (H3 (v0 : Int).toNat) 2 0) → Ci mX12_held d [(2, v0), (0, 0)] K H6 (fun x8 H7 => Ci mX12_held d [(2, v0), (0, 1)] K H7 (fun x10 H9 => Ci mX12_tells d [(2, v0), (0, x8), (0, x10)] K H9 (fun x12 H11 => q x12 H11)))) ∧ ((x4 : Int) = 0 → Ci mX12_refuse d [(2, v0), (0, 6)] K H3 (fun x14 H13 => q x14 H13))))) : FX12_factor_0 d K H q (v0) := by
  unfold FX12_factor_0
  refine r_aload_n 0 dX12_factor_0 rfl rfl ?_
  obtain ⟨h1, h⟩ := h
  obtain ⟨h2, h⟩ := h
  refine r_invV (M := mX12_factor) (As := []) (st := []) (X := v0) (mc := 0) (ms := 0) (fc := 0) (fs := 0) h ok_X12_finds cls12 im_X12_finds se_X12_finds ml_RX12_332 dX12_factor_1 rfl h1 h2 (Nat.le_of_ble_eq_true rfl) rfl ?_
  rintro r K1 H3 ⟨rfl, x4, rfl, h⟩ -
  show Fr mX12_factor (d + 1) 0 0 none 4 [(0, (2, v0))] [(0, x4)] _ H3 _
  refine r_if_ne (tgt := 14) dX12_factor_4 (by decide) (fun c5 => ?_) (fun c5 => ?_)
  · replace h := h.1 c5
    refine r_aload_n 0 dX12_factor_14 rfl rfl ?_
    refine r_iconst dX12_factor_15 (by decide) (by decide) ?_
    refine r_putf cls12 2 dX12_factor_16 (by decide) rfl fl_RX12_93 rfl h1 h2 (fun o => o) ?_
    replace h := h _ rfl
    generalize upA H3 (v0 : Int).toNat (up1 (H3 (v0 : Int).toNat) 2 0) = H6 at h ⊢
    refine r_aload_n 0 dX12_factor_19 rfl rfl ?_
    refine r_aload_n 0 dX12_factor_20 rfl rfl ?_
    refine r_iconst dX12_factor_21 (by decide) (by decide) ?_
    refine r_invV (M := mX12_factor) (As := [(0, 0)]) (st := [(2, v0)]) (X := v0) (mc := 0) (ms := 0) (fc := 0) (fs := 0) h ok_X12_held cls12 im_X12_held se_X12_held ml_RX12_326 dX12_factor_22 rfl h1 h2 (Nat.le_of_ble_eq_true rfl) rfl ?_
    rintro r K1 H7 ⟨rfl, x8, rfl, h⟩ -
    show Fr mX12_factor (d + 1) 0 0 none 25 [(0, (2, v0))] [(0, x8), (2, v0)] _ H7 _
    refine r_aload_n 0 dX12_factor_25 rfl rfl ?_
    refine r_iconst dX12_factor_26 (by decide) (by decide) ?_
    refine r_invV (M := mX12_factor) (As := [(0, 1)]) (st := [(0, x8), (2, v0)]) (X := v0) (mc := 0) (ms := 0) (fc := 0) (fs := 0) h ok_X12_held cls12 im_X12_held se_X12_held ml_RX12_326 dX12_factor_27 rfl h1 h2 (Nat.le_of_ble_eq_true rfl) rfl ?_
    rintro r K1 H9 ⟨rfl, x10, rfl, h⟩ -
    show Fr mX12_factor (d + 1) 0 0 none 30 [(0, (2, v0))] [(0, x10), (0, x8), (2, v0)] _ H9 _
    refine r_invV (M := mX12_factor) (As := [(0, x8), (0, x10)]) (st := []) (X := v0) (mc := 0) (ms := 0) (fc := 0) (fs := 0) h ok_X12_tells cls12 im_X12_tells se_X12_tells ml_RX12_239 dX12_factor_30 rfl h1 h2 (Nat.le_of_ble_eq_true rfl) rfl ?_
    rintro r K1 H11 ⟨rfl, x12, rfl, h⟩ -
    show Fr mX12_factor (d + 1) 0 0 none 33 [(0, (2, v0))] [(0, x12)] _ H11 _
    exact r_iret dX12_factor_33 rfl ⟨rfl, _, rfl, h⟩
  · replace h := h.2 c5
    refine r_aload_n 0 dX12_factor_7 rfl rfl ?_
    refine r_bipush dX12_factor_8 (by decide) (by decide) ?_
    refine r_invV (M := mX12_factor) (As := [(0, 6)]) (st := []) (X := v0) (mc := 0) (ms := 0) (fc := 0) (fs := 0) h ok_X12_refuse cls12 im_X12_refuse se_X12_refuse ml_RX12_184 dX12_factor_10 rfl h1 h2 (Nat.le_of_ble_eq_true rfl) rfl ?_
    rintro r K1 H13 ⟨rfl, x14, rfl, h⟩ -
    show Fr mX12_factor (d + 1) 0 0 none 13 [(0, (2, v0))] [(0, x14)] _ H13 _
    exact r_iret dX12_factor_13 rfl ⟨rfl, _, rfl, h⟩
set_option maxRecDepth 20000 in
theorem eX12_factor {d : Nat} {K : Shp} {H : Mem} {q : Int → Mem → Prop} {v0 : Int} (h : Rng K H → FX12_factor_0 d K H q v0) : Ci mX12_factor (d + 1) [(2, v0)] K H q := Call.of rfl (Nat.le_of_ble_eq_true rfl) (fun o r => h  r)
def FX12_weakest_0 (d : Nat) (K : Shp) (H : Mem) (q : Int → Mem → Prop) (v0 : Int) : Prop := Fr mX12_weakest (d + 1) 0 0 none 0 [(0, (2, v0))] [] K H (qi K q)
set_option maxRecDepth 20000 in
theorem bX12_weakest_0 {d : Nat} {K : Shp} {H : Mem} {q : Int → Mem → Prop} {v0 : Int} (h : ((0 : Int) ≤ v0) ∧ (K[(v0 : Int).toNat]? = some (12, 51)) ∧ Ci mX12_finds d [(2, v0)] K H (fun x4 H3 => ((¬ (x4 : Int) = 0 → ∀ H6 : Mem, H6 = upA H3 (v0 : Int).toNat (up1 (H3 (v0 : Int).toNat) 0 0) → q (H6 (v0 : Int).toNat 50) H6) ∧ ((x4 : Int) = 0 → Ci mX12_refuse d [(2, v0), (0, 6)] K H3 (fun x8 H7 => q x8 H7))))) : FX12_weakest_0 d K H q (v0) := by
  unfold FX12_weakest_0
  refine r_aload_n 0 dX12_weakest_0 rfl rfl ?_
  obtain ⟨h1, h⟩ := h
  obtain ⟨h2, h⟩ := h
  refine r_invV (M := mX12_weakest) (As := []) (st := []) (X := v0) (mc := 0) (ms := 0) (fc := 0) (fs := 0) h ok_X12_finds cls12 im_X12_finds se_X12_finds ml_RX12_332 dX12_weakest_1 rfl h1 h2 (Nat.le_of_ble_eq_true rfl) rfl ?_
  rintro r K1 H3 ⟨rfl, x4, rfl, h⟩ -
  show Fr mX12_weakest (d + 1) 0 0 none 4 [(0, (2, v0))] [(0, x4)] _ H3 _
  refine r_if_ne (tgt := 14) dX12_weakest_4 (by decide) (fun c5 => ?_) (fun c5 => ?_)
  · replace h := h.1 c5
    refine r_aload_n 0 dX12_weakest_14 rfl rfl ?_
    refine r_iconst dX12_weakest_15 (by decide) (by decide) ?_
    refine r_putf cls12 0 dX12_weakest_16 (by decide) rfl fl_RX12_89 rfl h1 h2 (fun o => o) ?_
    replace h := h _ rfl
    generalize upA H3 (v0 : Int).toNat (up1 (H3 (v0 : Int).toNat) 0 0) = H6 at h ⊢
    refine r_aload_n 0 dX12_weakest_19 rfl rfl ?_
    refine r_getf cls12 50 dX12_weakest_20 (by decide) fl_RX12_323 rfl h1 h2 ?_
    exact r_iret dX12_weakest_23 rfl ⟨rfl, _, rfl, h⟩
  · replace h := h.2 c5
    refine r_aload_n 0 dX12_weakest_7 rfl rfl ?_
    refine r_bipush dX12_weakest_8 (by decide) (by decide) ?_
    refine r_invV (M := mX12_weakest) (As := [(0, 6)]) (st := []) (X := v0) (mc := 0) (ms := 0) (fc := 0) (fs := 0) h ok_X12_refuse cls12 im_X12_refuse se_X12_refuse ml_RX12_184 dX12_weakest_10 rfl h1 h2 (Nat.le_of_ble_eq_true rfl) rfl ?_
    rintro r K1 H7 ⟨rfl, x8, rfl, h⟩ -
    show Fr mX12_weakest (d + 1) 0 0 none 13 [(0, (2, v0))] [(0, x8)] _ H7 _
    exact r_iret dX12_weakest_13 rfl ⟨rfl, _, rfl, h⟩
set_option maxRecDepth 20000 in
theorem eX12_weakest {d : Nat} {K : Shp} {H : Mem} {q : Int → Mem → Prop} {v0 : Int} (h : Rng K H → FX12_weakest_0 d K H q v0) : Ci mX12_weakest (d + 1) [(2, v0)] K H q := Call.of rfl (Nat.le_of_ble_eq_true rfl) (fun o r => h  r)
