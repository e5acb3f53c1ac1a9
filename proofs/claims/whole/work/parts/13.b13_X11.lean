/-! printed by gen/emit.py: what a walk from each cut point asks -/
def FX11_status_0 (d : Nat) (K : Shp) (H : Mem) (q : Int → Mem → Prop) (v0 : Int) : Prop := Fr mX11_status d 0 0 none 0 [(0, (2, v0))] [] K H (qi K q)
set_option maxHeartbeats 4000000 in
set_option maxRecDepth 20000 in
theorem bX11_status_0 {d : Nat} {K : Shp} {H : Mem} {q : Int → Mem → Prop} {v0 : Int} (h : ((0 : Int) ≤ v0) ∧ (K[(v0 : Int).toNat]? = some (11, 8)) ∧ q (H (v0 : Int).toNat 0) H) : FX11_status_0 d K H q (v0) := by
  unfold FX11_status_0
  refine r_aload_n 0 dX11_status_0 rfl rfl ?_
  obtain ⟨h1, h⟩ := h
  obtain ⟨h2, h⟩ := h
  refine r_getf cls11 0 dX11_status_1 (by decide) fl_RX11_9 rfl h1 h2 ?_
  exact r_iret dX11_status_4 rfl ⟨rfl, _, rfl, h⟩
set_option maxHeartbeats 4000000 in
set_option maxRecDepth 20000 in
theorem eX11_status {d : Nat} {K : Shp} {H : Mem} {q : Int → Mem → Prop} {v0 : Int} (h : Rng K H → FX11_status_0 d K H q v0) : Ci mX11_status d [(2, v0)] K H q := Call.of rfl (Nat.le_of_ble_eq_true rfl) (fun o r => h  r)
def FX11_out_0 (d : Nat) (K : Shp) (H : Mem) (q : Int → Mem → Prop) (v0 : Int) (v1 : Int) : Prop := Fr mX11_out d 0 0 none 0 [(0, (2, v0)), (1, (0, v1))] [] K H (qi K q)
set_option maxHeartbeats 4000000 in
set_option maxRecDepth 20000 in
theorem bX11_out_0 {d : Nat} {K : Shp} {H : Mem} {q : Int → Mem → Prop} {v0 v1 : Int} (h : (((v1 : Int) < 0 → q (-1) H) ∧ (¬ (v1 : Int) < 0 → ((0 : Int) ≤ v0) ∧ (K[(v0 : Int).toNat]? = some (11, 8)) ∧ ((0 : Int) ≤ (H (v0 : Int).toNat 1)) ∧ (K[((H (v0 : Int).toNat 1) : Int).toNat]? = some (8, 3)) ∧ ((¬ (v1 : Int) < (H ((H (v0 : Int).toNat 1) : Int).toNat 0) → q (-1) H) ∧ ((v1 : Int) < (H ((H (v0 : Int).toNat 1) : Int).toNat 0) → ((0 : Int) ≤ (H ((H (v0 : Int).toNat 1) : Int).toNat 1)) ∧ ∃ n8 : Nat, (K[((H ((H (v0 : Int).toNat 1) : Int).toNat 1) : Int).toNat]? = some (20, n8)) ∧ ((0 : Int) ≤ v1) ∧ ((v1 : Int) < n8) ∧ q (H ((H ((H (v0 : Int).toNat 1) : Int).toNat 1) : Int).toNat (v1 : Int).toNat) H))))) : FX11_out_0 d K H q (v0) (v1) := by
  unfold FX11_out_0
  refine r_iload_n 1 dX11_out_0 rfl rfl ?_
  refine r_if_lt (tgt := 27) dX11_out_1 (by decide) (fun c1 => ?_) (fun c1 => ?_)
  · replace h := h.1 c1
    refine r_iconst dX11_out_27 (by decide) (by decide) ?_
    exact r_iret dX11_out_28 rfl ⟨rfl, _, rfl, h⟩
  · replace h := h.2 c1
    refine r_iload_n 1 dX11_out_4 rfl rfl ?_
    refine r_aload_n 0 dX11_out_5 rfl rfl ?_
    obtain ⟨h2, h⟩ := h
    obtain ⟨h3, h⟩ := h
    refine r_getf cls11 1 dX11_out_6 (by decide) fl_RX11_16 rfl h2 h3 ?_
    obtain ⟨h4, h⟩ := h
    obtain ⟨h5, h⟩ := h
    refine r_getf cls8 0 dX11_out_9 (by decide) fl_RX11_62 rfl h4 h5 ?_
    refine r_icmp_ge (tgt := 27) dX11_out_12 (by decide) (fun c6 => ?_) (fun c6 => ?_)
    · replace h := h.1 c6
      refine r_iconst dX11_out_27 (by decide) (by decide) ?_
      exact r_iret dX11_out_28 rfl ⟨rfl, _, rfl, h⟩
    · replace h := h.2 c6
      refine r_aload_n 0 dX11_out_15 rfl rfl ?_
      refine r_getf cls11 1 dX11_out_16 (by decide) fl_RX11_16 rfl h2 h3 ?_
      refine r_getf cls8 1 dX11_out_19 (by decide) fl_RX11_65 rfl h4 h5 ?_
      refine r_iload_n 1 dX11_out_22 rfl rfl ?_
      obtain ⟨h7, h⟩ := h
      obtain ⟨n8, h⟩ := h
      obtain ⟨h9, h⟩ := h
      obtain ⟨h10, h⟩ := h
      obtain ⟨h11, h⟩ := h
      refine r_iald n8 dX11_out_23 h7 h9 h10 h11 ?_
      refine r_goto (tgt := 28) dX11_out_24 (by decide) ?_
      exact r_iret dX11_out_28 rfl ⟨rfl, _, rfl, h⟩
set_option maxHeartbeats 4000000 in
set_option maxRecDepth 20000 in
theorem eX11_out {d : Nat} {K : Shp} {H : Mem} {q : Int → Mem → Prop} {v0 v1 : Int} (h : inI v1 → Rng K H → FX11_out_0 d K H q v0 v1) : Ci mX11_out d [(2, v0), (0, v1)] K H q := Call.of rfl (Nat.le_of_ble_eq_true rfl) (fun o r => h (o (0, v1) (by simp)) r)
def FX11_stone_0 (d : Nat) (K : Shp) (H : Mem) (q : Int → Mem → Prop) (v0 : Int) (v1 : Int) (v2 : Int) (v3 : Int) : Prop := Fr mX11_stone (d + 1) 0 0 none 0 [(0, (2, v0)), (1, (0, v1)), (2, (0, v2)), (3, (0, v3))] [] K H (qi K q)
set_option maxHeartbeats 4000000 in
set_option maxRecDepth 20000 in
theorem bX11_stone_0 {d : Nat} {K : Shp} {H : Mem} {q : Int → Mem → Prop} {v0 v1 v2 v3 : Int} (h : ((0 : Int) ≤ v0) ∧ (K[(v0 : Int).toNat]? = some (11, 8)) ∧ Ci mX11_isSection d [(2, v0), (0, v1)] K H (fun x4 H3 => ((¬ (x4 : Int) = 0 → Ci mX11_isFromTo d [(0, v2), (0, 1), (0, 50)] K H3 (fun x7 H6 => (((x7 : Int) = 0 → Ci mX11_deny d [(2, v0), (0, 2)] K H6 (fun x10 H9 => ((x10 : Int) = 0 ∨ (x10 : Int) = 1) ∧ q x10 H9)) ∧ (¬ (x7 : Int) = 0 → Ci mX11_isFromTo d [(0, v3), (0, 0), (0, 100)] K H6 (fun x13 H12 => ((¬ (x13 : Int) = 0 → ((0 : Int) ≤ (H12 (v0 : Int).toNat 2)) ∧ ∃ n16 : Nat, (K[((H12 (v0 : Int).toNat 2) : Int).toNat]? = some (23, n16)) ∧ ((0 : Int) ≤ v1) ∧ ((v1 : Int) < n16) ∧ ((0 : Int) ≤ (H12 ((H12 (v0 : Int).toNat 2) : Int).toNat (v1 : Int).toNat)) ∧ (K[((H12 ((H12 (v0 : Int).toNat 2) : Int).toNat (v1 : Int).toNat) : Int).toNat]? = some (4, 18)) ∧ Cv mX4_begin d [(2, (H12 ((H12 (v0 : Int).toNat 2) : Int).toNat (v1 : Int).toNat)), (0, v2), (0, v3)] K H12 (fun H22 => Ci mX11_allow d [(2, v0)] K H22 (fun x25 H24 => ((x25 : Int) = 0 ∨ (x25 : Int) = 1) ∧ q x25 H24))) ∧ ((x13 : Int) = 0 → Ci mX11_deny d [(2, v0), (0, 2)] K H12 (fun x28 H27 => ((x28 : Int) = 0 ∨ (x28 : Int) = 1) ∧ q x28 H27)))))))) ∧ ((x4 : Int) = 0 → Ci mX11_deny d [(2, v0), (0, 1)] K H3 (fun x31 H30 => ((x31 : Int) = 0 ∨ (x31 : Int) = 1) ∧ q x31 H30))))) : FX11_stone_0 d K H q (v0) (v1) (v2) (v3) := by
  unfold FX11_stone_0
  refine r_aload_n 0 dX11_stone_0 rfl rfl ?_
  refine r_iload_n 1 dX11_stone_1 rfl rfl ?_
  obtain ⟨h1, h⟩ := h
  obtain ⟨h2, h⟩ := h
  refine r_invV (M := mX11_stone) (As := [(0, v1)]) (st := []) (X := v0) (mc := 0) (ms := 0) (fc := 0) (fs := 0) h ok_X11_isSection cls11 im_X11_isSection se_X11_isSection ml_RX11_69 dX11_stone_2 rfl h1 h2 (Nat.le_of_ble_eq_true rfl) rfl ?_
  rintro r K1 H3 ⟨rfl, x4, rfl, h⟩ -
  show Fr mX11_stone (d + 1) 0 0 none 5 [(0, (2, v0)), (1, (0, v1)), (2, (0, v2)), (3, (0, v3))] [(0, x4)] _ H3 _
  refine r_if_ne (tgt := 14) dX11_stone_5 (by decide) (fun c5 => ?_) (fun c5 => ?_)
  · replace h := h.1 c5
    refine r_iload_n 2 dX11_stone_14 rfl rfl ?_
    refine r_iconst dX11_stone_15 (by decide) (by decide) ?_
    refine r_bipush dX11_stone_16 (by decide) (by decide) ?_
    refine r_invS (M := mX11_stone) (As := [(0, v2), (0, 1), (0, 50)]) (st := []) (mc := 0) (ms := 0) (fc := 0) (fs := 0) h ok_X11_isFromTo sm_X11_isFromTo ml_RX11_76 dX11_stone_18 rfl (Nat.le_of_ble_eq_true rfl) rfl ?_
    rintro r K1 H6 ⟨rfl, x7, rfl, h⟩ -
    show Fr mX11_stone (d + 1) 0 0 none 21 [(0, (2, v0)), (1, (0, v1)), (2, (0, v2)), (3, (0, v3))] [(0, x7)] _ H6 _
    refine r_if_eq (tgt := 34) dX11_stone_21 (by decide) (fun c8 => ?_) (fun c8 => ?_)
    · replace h := h.1 c8
      refine r_aload_n 0 dX11_stone_34 rfl rfl ?_
      refine r_iconst dX11_stone_35 (by decide) (by decide) ?_
      refine r_invV (M := mX11_stone) (As := [(0, 2)]) (st := []) (X := v0) (mc := 0) (ms := 0) (fc := 0) (fs := 0) h ok_X11_deny cls11 im_X11_deny se_X11_deny ml_RX11_73 dX11_stone_36 rfl h1 h2 (Nat.le_of_ble_eq_true rfl) rfl ?_
      rintro r K1 H9 ⟨rfl, x10, rfl, h⟩ -
      show Fr mX11_stone (d + 1) 0 0 none 39 [(0, (2, v0)), (1, (0, v1)), (2, (0, v2)), (3, (0, v3))] [(0, x10)] _ H9 _
      obtain ⟨h11, h⟩ := h
      exact r_zret dX11_stone_39 rfl h11 ⟨rfl, _, rfl, h⟩
    · replace h := h.2 c8
      refine r_iload_n 3 dX11_stone_24 rfl rfl ?_
      refine r_iconst dX11_stone_25 (by decide) (by decide) ?_
      refine r_bipush dX11_stone_26 (by decide) (by decide) ?_
      refine r_invS (M := mX11_stone) (As := [(0, v3), (0, 0), (0, 100)]) (st := []) (mc := 0) (ms := 0) (fc := 0) (fs := 0) h ok_X11_isFromTo sm_X11_isFromTo ml_RX11_76 dX11_stone_28 rfl (Nat.le_of_ble_eq_true rfl) rfl ?_
      rintro r K1 H12 ⟨rfl, x13, rfl, h⟩ -
      show Fr mX11_stone (d + 1) 0 0 none 31 [(0, (2, v0)), (1, (0, v1)), (2, (0, v2)), (3, (0, v3))] [(0, x13)] _ H12 _
      refine r_if_ne (tgt := 40) dX11_stone_31 (by decide) (fun c14 => ?_) (fun c14 => ?_)
      · replace h := h.1 c14
        refine r_aload_n 0 dX11_stone_40 rfl rfl ?_
        refine r_getf cls11 2 dX11_stone_41 (by decide) fl_RX11_22 rfl h1 h2 ?_
        refine r_iload_n 1 dX11_stone_44 rfl rfl ?_
        obtain ⟨h15, h⟩ := h
        obtain ⟨n16, h⟩ := h
        obtain ⟨h17, h⟩ := h
        obtain ⟨h18, h⟩ := h
        obtain ⟨h19, h⟩ := h
        refine r_aald 23 n16 (by decide) dX11_stone_45 h15 h17 h18 h19 ?_
        refine r_iload_n 2 dX11_stone_46 rfl rfl ?_
        refine r_iload_n 3 dX11_stone_47 rfl rfl ?_
        obtain ⟨h20, h⟩ := h
        obtain ⟨h21, h⟩ := h
        refine r_invV (M := mX11_stone) (As := [(0, v2), (0, v3)]) (st := []) (X := (H12 ((H12 (v0 : Int).toNat 2) : Int).toNat (v1 : Int).toNat)) (mc := 0) (ms := 0) (fc := 0) (fs := 0) h ok_X4_begin cls4 im_X4_begin se_X4_begin ml_RX11_80 dX11_stone_48 rfl h20 h21 (Nat.le_of_ble_eq_true rfl) rfl ?_
        rintro r K1 H22 ⟨rfl, rfl, h⟩ -
        show Fr mX11_stone (d + 1) 0 0 none 51 [(0, (2, v0)), (1, (0, v1)), (2, (0, v2)), (3, (0, v3))] [] _ H22 _
        refine r_aload_n 0 dX11_stone_51 rfl rfl ?_
        refine r_invV (M := mX11_stone) (As := []) (st := []) (X := v0) (mc := 0) (ms := 0) (fc := 0) (fs := 0) h ok_X11_allow cls11 im_X11_allow se_X11_allow ml_RX11_84 dX11_stone_52 rfl h1 h2 (Nat.le_of_ble_eq_true rfl) rfl ?_
        rintro r K1 H24 ⟨rfl, x25, rfl, h⟩ -
        show Fr mX11_stone (d + 1) 0 0 none 55 [(0, (2, v0)), (1, (0, v1)), (2, (0, v2)), (3, (0, v3))] [(0, x25)] _ H24 _
        obtain ⟨h26, h⟩ := h
        exact r_zret dX11_stone_55 rfl h26 ⟨rfl, _, rfl, h⟩
      · replace h := h.2 c14
        refine r_aload_n 0 dX11_stone_34 rfl rfl ?_
        refine r_iconst dX11_stone_35 (by decide) (by decide) ?_
        refine r_invV (M := mX11_stone) (As := [(0, 2)]) (st := []) (X := v0) (mc := 0) (ms := 0) (fc := 0) (fs := 0) h ok_X11_deny cls11 im_X11_deny se_X11_deny ml_RX11_73 dX11_stone_36 rfl h1 h2 (Nat.le_of_ble_eq_true rfl) rfl ?_
        rintro r K1 H27 ⟨rfl, x28, rfl, h⟩ -
        show Fr mX11_stone (d + 1) 0 0 none 39 [(0, (2, v0)), (1, (0, v1)), (2, (0, v2)), (3, (0, v3))] [(0, x28)] _ H27 _
        obtain ⟨h29, h⟩ := h
        exact r_zret dX11_stone_39 rfl h29 ⟨rfl, _, rfl, h⟩
  · replace h := h.2 c5
    refine r_aload_n 0 dX11_stone_8 rfl rfl ?_
    refine r_iconst dX11_stone_9 (by decide) (by decide) ?_
    refine r_invV (M := mX11_stone) (As := [(0, 1)]) (st := []) (X := v0) (mc := 0) (ms := 0) (fc := 0) (fs := 0) h ok_X11_deny cls11 im_X11_deny se_X11_deny ml_RX11_73 dX11_stone_10 rfl h1 h2 (Nat.le_of_ble_eq_true rfl) rfl ?_
    rintro r K1 H30 ⟨rfl, x31, rfl, h⟩ -
    show Fr mX11_stone (d + 1) 0 0 none 13 [(0, (2, v0)), (1, (0, v1)), (2, (0, v2)), (3, (0, v3))] [(0, x31)] _ H30 _
    obtain ⟨h32, h⟩ := h
    exact r_zret dX11_stone_13 rfl h32 ⟨rfl, _, rfl, h⟩
set_option maxHeartbeats 4000000 in
set_option maxRecDepth 20000 in
theorem eX11_stone {d : Nat} {K : Shp} {H : Mem} {q : Int → Mem → Prop} {v0 v1 v2 v3 : Int} (h : inI v1 → inI v2 → inI v3 → Rng K H → FX11_stone_0 d K H q v0 v1 v2 v3) : Ci mX11_stone (d + 1) [(2, v0), (0, v1), (0, v2), (0, v3)] K H q := Call.of rfl (Nat.le_of_ble_eq_true rfl) (fun o r => h (o (0, v1) (by simp)) (o (0, v2) (by simp)) (o (0, v3) (by simp)) r)
def FX11_band_0 (d : Nat) (K : Shp) (H : Mem) (q : Int → Mem → Prop) (v0 : Int) (v1 : Int) (v2 : Int) (v3 : Int) (v4 : Int) : Prop := Fr mX11_band (d + 1) 0 0 none 0 [(0, (2, v0)), (1, (0, v1)), (2, (0, v2)), (3, (0, v3)), (4, (0, v4))] [] K H (qi K q)
set_option maxHeartbeats 4000000 in
set_option maxRecDepth 20000 in
theorem bX11_band_0 {d : Nat} {K : Shp} {H : Mem} {q : Int → Mem → Prop} {v0 v1 v2 v3 v4 : Int} (h : ((0 : Int) ≤ v0) ∧ (K[(v0 : Int).toNat]? = some (11, 8)) ∧ Ci mX11_isSection d [(2, v0), (0, v1)] K H (fun x4 H3 => ((¬ (x4 : Int) = 0 → Ci mX11_isFromTo d [(0, v2), (0, 1), (0, 100)] K H3 (fun x7 H6 => (((x7 : Int) = 0 → Ci mX11_refuse d [(2, v0), (0, 2)] K H6 (fun x10 H9 => q x10 H9)) ∧ (¬ (x7 : Int) = 0 → (((v3 : Int) < 0 → Ci mX11_refuse d [(2, v0), (0, 2)] K H6 (fun x13 H12 => q x13 H12)) ∧ (¬ (v3 : Int) < 0 → ((¬ (v4 : Int) ≤ 100 → Ci mX11_refuse d [(2, v0), (0, 2)] K H6 (fun x16 H15 => q x16 H15)) ∧ ((v4 : Int) ≤ 100 → (((v3 : Int) < v4 → ((0 : Int) ≤ (H6 (v0 : Int).toNat 2)) ∧ ∃ n19 : Nat, (K[((H6 (v0 : Int).toNat 2) : Int).toNat]? = some (23, n19)) ∧ ((0 : Int) ≤ v1) ∧ ((v1 : Int) < n19) ∧ ((0 : Int) ≤ (H6 ((H6 (v0 : Int).toNat 2) : Int).toNat (v1 : Int).toNat)) ∧ (K[((H6 ((H6 (v0 : Int).toNat 2) : Int).toNat (v1 : Int).toNat) : Int).toNat]? = some (4, 18)) ∧ ((((H6 ((H6 ((H6 (v0 : Int).toNat 2) : Int).toNat (v1 : Int).toNat) : Int).toNat 3) : Int) < 8 → Ci mX4_addBand d [(2, (H6 ((H6 (v0 : Int).toNat 2) : Int).toNat (v1 : Int).toNat)), (0, v2), (0, v3), (0, v4)] K H6 (fun x27 H26 => Ci mX11_give d [(2, v0), (0, x27)] K H26 (fun x29 H28 => q x29 H28))) ∧ (¬ ((H6 ((H6 ((H6 (v0 : Int).toNat 2) : Int).toNat (v1 : Int).toNat) : Int).toNat 3) : Int) < 8 → Ci mX11_refuse d [(2, v0), (0, 3)] K H6 (fun x31 H30 => q x31 H30)))) ∧ (¬ (v3 : Int) < v4 → Ci mX11_refuse d [(2, v0), (0, 2)] K H6 (fun x33 H32 => q x33 H32))))))))))) ∧ ((x4 : Int) = 0 → Ci mX11_refuse d [(2, v0), (0, 1)] K H3 (fun x35 H34 => q x35 H34))))) : FX11_band_0 d K H q (v0) (v1) (v2) (v3) (v4) := by
  unfold FX11_band_0
  refine r_aload_n 0 dX11_band_0 rfl rfl ?_
  refine r_iload_n 1 dX11_band_1 rfl rfl ?_
  obtain ⟨h1, h⟩ := h
  obtain ⟨h2, h⟩ := h
  refine r_invV (M := mX11_band) (As := [(0, v1)]) (st := []) (X := v0) (mc := 0) (ms := 0) (fc := 0) (fs := 0) h ok_X11_isSection cls11 im_X11_isSection se_X11_isSection ml_RX11_69 dX11_band_2 rfl h1 h2 (Nat.le_of_ble_eq_true rfl) rfl ?_
  rintro r K1 H3 ⟨rfl, x4, rfl, h⟩ -
  show Fr mX11_band (d + 1) 0 0 none 5 [(0, (2, v0)), (1, (0, v1)), (2, (0, v2)), (3, (0, v3)), (4, (0, v4))] [(0, x4)] _ H3 _
  refine r_if_ne (tgt := 14) dX11_band_5 (by decide) (fun c5 => ?_) (fun c5 => ?_)
  · replace h := h.1 c5
    refine r_iload_n 2 dX11_band_14 rfl rfl ?_
    refine r_iconst dX11_band_15 (by decide) (by decide) ?_
    refine r_bipush dX11_band_16 (by decide) (by decide) ?_
    refine r_invS (M := mX11_band) (As := [(0, v2), (0, 1), (0, 100)]) (st := []) (mc := 0) (ms := 0) (fc := 0) (fs := 0) h ok_X11_isFromTo sm_X11_isFromTo ml_RX11_76 dX11_band_18 rfl (Nat.le_of_ble_eq_true rfl) rfl ?_
    rintro r K1 H6 ⟨rfl, x7, rfl, h⟩ -
    show Fr mX11_band (d + 1) 0 0 none 21 [(0, (2, v0)), (1, (0, v1)), (2, (0, v2)), (3, (0, v3)), (4, (0, v4))] [(0, x7)] _ H6 _
    refine r_if_eq (tgt := 41) dX11_band_21 (by decide) (fun c8 => ?_) (fun c8 => ?_)
    · replace h := h.1 c8
      refine r_aload_n 0 dX11_band_41 rfl rfl ?_
      refine r_iconst dX11_band_42 (by decide) (by decide) ?_
      refine r_invV (M := mX11_band) (As := [(0, 2)]) (st := []) (X := v0) (mc := 0) (ms := 0) (fc := 0) (fs := 0) h ok_X11_refuse cls11 im_X11_refuse se_X11_refuse ml_RX11_88 dX11_band_43 rfl h1 h2 (Nat.le_of_ble_eq_true rfl) rfl ?_
      rintro r K1 H9 ⟨rfl, x10, rfl, h⟩ -
      show Fr mX11_band (d + 1) 0 0 none 46 [(0, (2, v0)), (1, (0, v1)), (2, (0, v2)), (3, (0, v3)), (4, (0, v4))] [(0, x10)] _ H9 _
      exact r_iret dX11_band_46 rfl ⟨rfl, _, rfl, h⟩
    · replace h := h.2 c8
      refine r_iload_n 3 dX11_band_24 rfl rfl ?_
      refine r_if_lt (tgt := 41) dX11_band_25 (by decide) (fun c11 => ?_) (fun c11 => ?_)
      · replace h := h.1 c11
        refine r_aload_n 0 dX11_band_41 rfl rfl ?_
        refine r_iconst dX11_band_42 (by decide) (by decide) ?_
        refine r_invV (M := mX11_band) (As := [(0, 2)]) (st := []) (X := v0) (mc := 0) (ms := 0) (fc := 0) (fs := 0) h ok_X11_refuse cls11 im_X11_refuse se_X11_refuse ml_RX11_88 dX11_band_43 rfl h1 h2 (Nat.le_of_ble_eq_true rfl) rfl ?_
        rintro r K1 H12 ⟨rfl, x13, rfl, h⟩ -
        show Fr mX11_band (d + 1) 0 0 none 46 [(0, (2, v0)), (1, (0, v1)), (2, (0, v2)), (3, (0, v3)), (4, (0, v4))] [(0, x13)] _ H12 _
        exact r_iret dX11_band_46 rfl ⟨rfl, _, rfl, h⟩
      · replace h := h.2 c11
        refine r_iload 4 dX11_band_28 rfl ?_
        refine r_bipush dX11_band_30 (by decide) (by decide) ?_
        refine r_icmp_gt (tgt := 41) dX11_band_32 (by decide) (fun c14 => ?_) (fun c14 => ?_)
        · replace h := h.1 c14
          refine r_aload_n 0 dX11_band_41 rfl rfl ?_
          refine r_iconst dX11_band_42 (by decide) (by decide) ?_
          refine r_invV (M := mX11_band) (As := [(0, 2)]) (st := []) (X := v0) (mc := 0) (ms := 0) (fc := 0) (fs := 0) h ok_X11_refuse cls11 im_X11_refuse se_X11_refuse ml_RX11_88 dX11_band_43 rfl h1 h2 (Nat.le_of_ble_eq_true rfl) rfl ?_
          rintro r K1 H15 ⟨rfl, x16, rfl, h⟩ -
          show Fr mX11_band (d + 1) 0 0 none 46 [(0, (2, v0)), (1, (0, v1)), (2, (0, v2)), (3, (0, v3)), (4, (0, v4))] [(0, x16)] _ H15 _
          exact r_iret dX11_band_46 rfl ⟨rfl, _, rfl, h⟩
        · replace h := h.2 c14
          refine r_iload_n 3 dX11_band_35 rfl rfl ?_
          refine r_iload 4 dX11_band_36 rfl ?_
          refine r_icmp_lt (tgt := 47) dX11_band_38 (by decide) (fun c17 => ?_) (fun c17 => ?_)
          · replace h := h.1 c17
            refine r_aload_n 0 dX11_band_47 rfl rfl ?_
            refine r_getf cls11 2 dX11_band_48 (by decide) fl_RX11_22 rfl h1 h2 ?_
            refine r_iload_n 1 dX11_band_51 rfl rfl ?_
            obtain ⟨h18, h⟩ := h
            obtain ⟨n19, h⟩ := h
            obtain ⟨h20, h⟩ := h
            obtain ⟨h21, h⟩ := h
            obtain ⟨h22, h⟩ := h
            refine r_aald 23 n19 (by decide) dX11_band_52 h18 h20 h21 h22 ?_
            refine r_astore dX11_band_53 (by decide) rfl ?_
            refine r_aload 0 dX11_band_55 rfl ?_
            obtain ⟨h23, h⟩ := h
            obtain ⟨h24, h⟩ := h
            refine r_getf cls4 3 dX11_band_57 (by decide) fl_RX11_92 rfl h23 h24 ?_
            refine r_bipush dX11_band_60 (by decide) (by decide) ?_
            refine r_icmp_lt (tgt := 71) dX11_band_62 (by decide) (fun c25 => ?_) (fun c25 => ?_)
            · replace h := h.1 c25
              refine r_aload_n 1 dX11_band_71 rfl rfl ?_
              refine r_aload 0 dX11_band_72 rfl ?_
              refine r_iload_n 3 dX11_band_74 rfl rfl ?_
              refine r_iload_n 4 dX11_band_75 rfl rfl ?_
              refine r_iload 5 dX11_band_76 rfl ?_
              refine r_invV (M := mX11_band) (As := [(0, v2), (0, v3), (0, v4)]) (st := [(2, v0)]) (X := (H6 ((H6 (v0 : Int).toNat 2) : Int).toNat (v1 : Int).toNat)) (mc := 0) (ms := 0) (fc := 0) (fs := 0) h ok_X4_addBand cls4 im_X4_addBand se_X4_addBand ml_RX11_95 dX11_band_78 rfl h23 h24 (Nat.le_of_ble_eq_true rfl) rfl ?_
              rintro r K1 H26 ⟨rfl, x27, rfl, h⟩ -
              show Fr mX11_band (d + 1) 0 0 none 81 [(5, (2, (H6 ((H6 (v0 : Int).toNat 2) : Int).toNat (v1 : Int).toNat))), (0, (2, v0)), (1, (0, v1)), (2, (0, v2)), (3, (0, v3)), (4, (0, v4))] [(0, x27), (2, v0)] _ H26 _
              refine r_invV (M := mX11_band) (As := [(0, x27)]) (st := []) (X := v0) (mc := 0) (ms := 0) (fc := 0) (fs := 0) h ok_X11_give cls11 im_X11_give se_X11_give ml_RX11_99 dX11_band_81 rfl h1 h2 (Nat.le_of_ble_eq_true rfl) rfl ?_
              rintro r K1 H28 ⟨rfl, x29, rfl, h⟩ -
              show Fr mX11_band (d + 1) 0 0 none 84 [(5, (2, (H6 ((H6 (v0 : Int).toNat 2) : Int).toNat (v1 : Int).toNat))), (0, (2, v0)), (1, (0, v1)), (2, (0, v2)), (3, (0, v3)), (4, (0, v4))] [(0, x29)] _ H28 _
              exact r_iret dX11_band_84 rfl ⟨rfl, _, rfl, h⟩
            · replace h := h.2 c25
              refine r_aload_n 1 dX11_band_65 rfl rfl ?_
              refine r_iconst dX11_band_66 (by decide) (by decide) ?_
              refine r_invV (M := mX11_band) (As := [(0, 3)]) (st := []) (X := v0) (mc := 0) (ms := 0) (fc := 0) (fs := 0) h ok_X11_refuse cls11 im_X11_refuse se_X11_refuse ml_RX11_88 dX11_band_67 rfl h1 h2 (Nat.le_of_ble_eq_true rfl) rfl ?_
              rintro r K1 H30 ⟨rfl, x31, rfl, h⟩ -
              show Fr mX11_band (d + 1) 0 0 none 70 [(5, (2, (H6 ((H6 (v0 : Int).toNat 2) : Int).toNat (v1 : Int).toNat))), (0, (2, v0)), (1, (0, v1)), (2, (0, v2)), (3, (0, v3)), (4, (0, v4))] [(0, x31)] _ H30 _
              exact r_iret dX11_band_70 rfl ⟨rfl, _, rfl, h⟩
          · replace h := h.2 c17
            refine r_aload_n 0 dX11_band_41 rfl rfl ?_
            refine r_iconst dX11_band_42 (by decide) (by decide) ?_
            refine r_invV (M := mX11_band) (As := [(0, 2)]) (st := []) (X := v0) (mc := 0) (ms := 0) (fc := 0) (fs := 0) h ok_X11_refuse cls11 im_X11_refuse se_X11_refuse ml_RX11_88 dX11_band_43 rfl h1 h2 (Nat.le_of_ble_eq_true rfl) rfl ?_
            rintro r K1 H32 ⟨rfl, x33, rfl, h⟩ -
            show Fr mX11_band (d + 1) 0 0 none 46 [(0, (2, v0)), (1, (0, v1)), (2, (0, v2)), (3, (0, v3)), (4, (0, v4))] [(0, x33)] _ H32 _
            exact r_iret dX11_band_46 rfl ⟨rfl, _, rfl, h⟩
  · replace h := h.2 c5
    refine r_aload_n 0 dX11_band_8 rfl rfl ?_
    refine r_iconst dX11_band_9 (by decide) (by decide) ?_
    refine r_invV (M := mX11_band) (As := [(0, 1)]) (st := []) (X := v0) (mc := 0) (ms := 0) (fc := 0) (fs := 0) h ok_X11_refuse cls11 im_X11_refuse se_X11_refuse ml_RX11_88 dX11_band_10 rfl h1 h2 (Nat.le_of_ble_eq_true rfl) rfl ?_
    rintro r K1 H34 ⟨rfl, x35, rfl, h⟩ -
    show Fr mX11_band (d + 1) 0 0 none 13 [(0, (2, v0)), (1, (0, v1)), (2, (0, v2)), (3, (0, v3)), (4, (0, v4))] [(0, x35)] _ H34 _
    exact r_iret dX11_band_13 rfl ⟨rfl, _, rfl, h⟩
set_option maxHeartbeats 4000000 in
set_option maxRecDepth 20000 in
theorem eX11_band {d : Nat} {K : Shp} {H : Mem} {q : Int → Mem → Prop} {v0 v1 v2 v3 v4 : Int} (h : inI v1 → inI v2 → inI v3 → inI v4 → Rng K H → FX11_band_0 d K H q v0 v1 v2 v3 v4) : Ci mX11_band (d + 1) [(2, v0), (0, v1), (0, v2), (0, v3), (0, v4)] K H q := Call.of rfl (Nat.le_of_ble_eq_true rfl) (fun o r => h (o (0, v1) (by simp)) (o (0, v2) (by simp)) (o (0, v3) (by simp)) (o (0, v4) (by simp)) r)
def FX11_rod_0 (d : Nat) (K : Shp) (H : Mem) (q : Int → Mem → Prop) (v0 : Int) (v1 : Int) (v2 : Int) (v3 : Int) : Prop := Fr mX11_rod (d + 1) 0 0 none 0 [(0, (2, v0)), (1, (0, v1)), (2, (0, v2)), (3, (0, v3))] [] K H (qi K q)
set_option maxHeartbeats 4000000 in
set_option maxRecDepth 20000 in
theorem bX11_rod_0 {d : Nat} {K : Shp} {H : Mem} {q : Int → Mem → Prop} {v0 v1 v2 v3 : Int} (h : ((0 : Int) ≤ v0) ∧ (K[(v0 : Int).toNat]? = some (11, 8)) ∧ Ci mX11_isSection d [(2, v0), (0, v1)] K H (fun x4 H3 => ((¬ (x4 : Int) = 0 → Ci mX11_isFromTo d [(0, v2), (0, 0), (0, 100)] K H3 (fun x7 H6 => (((x7 : Int) = 0 → Ci mX11_refuse d [(2, v0), (0, 2)] K H6 (fun x10 H9 => q x10 H9)) ∧ (¬ (x7 : Int) = 0 → Ci mX11_isFromTo d [(0, v3), (0, 0), (0, 200)] K H6 (fun x12 H11 => ((¬ (x12 : Int) = 0 → ((0 : Int) ≤ (H11 (v0 : Int).toNat 2)) ∧ ∃ n15 : Nat, (K[((H11 (v0 : Int).toNat 2) : Int).toNat]? = some (23, n15)) ∧ ((0 : Int) ≤ v1) ∧ ((v1 : Int) < n15) ∧ ((0 : Int) ≤ (H11 ((H11 (v0 : Int).toNat 2) : Int).toNat (v1 : Int).toNat)) ∧ (K[((H11 ((H11 (v0 : Int).toNat 2) : Int).toNat (v1 : Int).toNat) : Int).toNat]? = some (4, 18)) ∧ ((((H11 ((H11 ((H11 (v0 : Int).toNat 2) : Int).toNat (v1 : Int).toNat) : Int).toNat 7) : Int) < 6 → Ci mX4_addRod d [(2, (H11 ((H11 (v0 : Int).toNat 2) : Int).toNat (v1 : Int).toNat)), (0, v2), (0, v3)] K H11 (fun x23 H22 => Ci mX11_give d [(2, v0), (0, x23)] K H22 (fun x25 H24 => q x25 H24))) ∧ (¬ ((H11 ((H11 ((H11 (v0 : Int).toNat 2) : Int).toNat (v1 : Int).toNat) : Int).toNat 7) : Int) < 6 → Ci mX11_refuse d [(2, v0), (0, 3)] K H11 (fun x27 H26 => q x27 H26)))) ∧ ((x12 : Int) = 0 → Ci mX11_refuse d [(2, v0), (0, 2)] K H11 (fun x29 H28 => q x29 H28)))))))) ∧ ((x4 : Int) = 0 → Ci mX11_refuse d [(2, v0), (0, 1)] K H3 (fun x31 H30 => q x31 H30))))) : FX11_rod_0 d K H q (v0) (v1) (v2) (v3) := by
  unfold FX11_rod_0
  refine r_aload_n 0 dX11_rod_0 rfl rfl ?_
  refine r_iload_n 1 dX11_rod_1 rfl rfl ?_
  obtain ⟨h1, h⟩ := h
  obtain ⟨h2, h⟩ := h
  refine r_invV (M := mX11_rod) (As := [(0, v1)]) (st := []) (X := v0) (mc := 0) (ms := 0) (fc := 0) (fs := 0) h ok_X11_isSection cls11 im_X11_isSection se_X11_isSection ml_RX11_69 dX11_rod_2 rfl h1 h2 (Nat.le_of_ble_eq_true rfl) rfl ?_
  rintro r K1 H3 ⟨rfl, x4, rfl, h⟩ -
  show Fr mX11_rod (d + 1) 0 0 none 5 [(0, (2, v0)), (1, (0, v1)), (2, (0, v2)), (3, (0, v3))] [(0, x4)] _ H3 _
  refine r_if_ne (tgt := 14) dX11_rod_5 (by decide) (fun c5 => ?_) (fun c5 => ?_)
  · replace h := h.1 c5
    refine r_iload_n 2 dX11_rod_14 rfl rfl ?_
    refine r_iconst dX11_rod_15 (by decide) (by decide) ?_
    refine r_bipush dX11_rod_16 (by decide) (by decide) ?_
    refine r_invS (M := mX11_rod) (As := [(0, v2), (0, 0), (0, 100)]) (st := []) (mc := 0) (ms := 0) (fc := 0) (fs := 0) h ok_X11_isFromTo sm_X11_isFromTo ml_RX11_76 dX11_rod_18 rfl (Nat.le_of_ble_eq_true rfl) rfl ?_
    rintro r K1 H6 ⟨rfl, x7, rfl, h⟩ -
    show Fr mX11_rod (d + 1) 0 0 none 21 [(0, (2, v0)), (1, (0, v1)), (2, (0, v2)), (3, (0, v3))] [(0, x7)] _ H6 _
    refine r_if_eq (tgt := 35) dX11_rod_21 (by decide) (fun c8 => ?_) (fun c8 => ?_)
    · replace h := h.1 c8
      refine r_aload_n 0 dX11_rod_35 rfl rfl ?_
      refine r_iconst dX11_rod_36 (by decide) (by decide) ?_
      refine r_invV (M := mX11_rod) (As := [(0, 2)]) (st := []) (X := v0) (mc := 0) (ms := 0) (fc := 0) (fs := 0) h ok_X11_refuse cls11 im_X11_refuse se_X11_refuse ml_RX11_88 dX11_rod_37 rfl h1 h2 (Nat.le_of_ble_eq_true rfl) rfl ?_
      rintro r K1 H9 ⟨rfl, x10, rfl, h⟩ -
      show Fr mX11_rod (d + 1) 0 0 none 40 [(0, (2, v0)), (1, (0, v1)), (2, (0, v2)), (3, (0, v3))] [(0, x10)] _ H9 _
      exact r_iret dX11_rod_40 rfl ⟨rfl, _, rfl, h⟩
    · replace h := h.2 c8
      refine r_iload_n 3 dX11_rod_24 rfl rfl ?_
      refine r_iconst dX11_rod_25 (by decide) (by decide) ?_
      refine r_sipush dX11_rod_26 (by decide) (by decide) ?_
      refine r_invS (M := mX11_rod) (As := [(0, v3), (0, 0), (0, 200)]) (st := []) (mc := 0) (ms := 0) (fc := 0) (fs := 0) h ok_X11_isFromTo sm_X11_isFromTo ml_RX11_76 dX11_rod_29 rfl (Nat.le_of_ble_eq_true rfl) rfl ?_
      rintro r K1 H11 ⟨rfl, x12, rfl, h⟩ -
      show Fr mX11_rod (d + 1) 0 0 none 32 [(0, (2, v0)), (1, (0, v1)), (2, (0, v2)), (3, (0, v3))] [(0, x12)] _ H11 _
      refine r_if_ne (tgt := 41) dX11_rod_32 (by decide) (fun c13 => ?_) (fun c13 => ?_)
      · replace h := h.1 c13
        refine r_aload_n 0 dX11_rod_41 rfl rfl ?_
        refine r_getf cls11 2 dX11_rod_42 (by decide) fl_RX11_22 rfl h1 h2 ?_
        refine r_iload_n 1 dX11_rod_45 rfl rfl ?_
        obtain ⟨h14, h⟩ := h
        obtain ⟨n15, h⟩ := h
        obtain ⟨h16, h⟩ := h
        obtain ⟨h17, h⟩ := h
        obtain ⟨h18, h⟩ := h
        refine r_aald 23 n15 (by decide) dX11_rod_46 h14 h16 h17 h18 ?_
        refine r_astore dX11_rod_47 (by decide) rfl ?_
        refine r_aload 0 dX11_rod_49 rfl ?_
        obtain ⟨h19, h⟩ := h
        obtain ⟨h20, h⟩ := h
        refine r_getf cls4 7 dX11_rod_51 (by decide) fl_RX11_102 rfl h19 h20 ?_
        refine r_bipush dX11_rod_54 (by decide) (by decide) ?_
        refine r_icmp_lt (tgt := 65) dX11_rod_56 (by decide) (fun c21 => ?_) (fun c21 => ?_)
        · replace h := h.1 c21
          refine r_aload_n 1 dX11_rod_65 rfl rfl ?_
          refine r_aload 0 dX11_rod_66 rfl ?_
          refine r_iload_n 3 dX11_rod_68 rfl rfl ?_
          refine r_iload_n 4 dX11_rod_69 rfl rfl ?_
          refine r_invV (M := mX11_rod) (As := [(0, v2), (0, v3)]) (st := [(2, v0)]) (X := (H11 ((H11 (v0 : Int).toNat 2) : Int).toNat (v1 : Int).toNat)) (mc := 0) (ms := 0) (fc := 0) (fs := 0) h ok_X4_addRod cls4 im_X4_addRod se_X4_addRod ml_RX11_105 dX11_rod_70 rfl h19 h20 (Nat.le_of_ble_eq_true rfl) rfl ?_
          rintro r K1 H22 ⟨rfl, x23, rfl, h⟩ -
          show Fr mX11_rod (d + 1) 0 0 none 73 [(4, (2, (H11 ((H11 (v0 : Int).toNat 2) : Int).toNat (v1 : Int).toNat))), (0, (2, v0)), (1, (0, v1)), (2, (0, v2)), (3, (0, v3))] [(0, x23), (2, v0)] _ H22 _
          refine r_invV (M := mX11_rod) (As := [(0, x23)]) (st := []) (X := v0) (mc := 0) (ms := 0) (fc := 0) (fs := 0) h ok_X11_give cls11 im_X11_give se_X11_give ml_RX11_99 dX11_rod_73 rfl h1 h2 (Nat.le_of_ble_eq_true rfl) rfl ?_
          rintro r K1 H24 ⟨rfl, x25, rfl, h⟩ -
          show Fr mX11_rod (d + 1) 0 0 none 76 [(4, (2, (H11 ((H11 (v0 : Int).toNat 2) : Int).toNat (v1 : Int).toNat))), (0, (2, v0)), (1, (0, v1)), (2, (0, v2)), (3, (0, v3))] [(0, x25)] _ H24 _
          exact r_iret dX11_rod_76 rfl ⟨rfl, _, rfl, h⟩
        · replace h := h.2 c21
          refine r_aload_n 1 dX11_rod_59 rfl rfl ?_
          refine r_iconst dX11_rod_60 (by decide) (by decide) ?_
          refine r_invV (M := mX11_rod) (As := [(0, 3)]) (st := []) (X := v0) (mc := 0) (ms := 0) (fc := 0) (fs := 0) h ok_X11_refuse cls11 im_X11_refuse se_X11_refuse ml_RX11_88 dX11_rod_61 rfl h1 h2 (Nat.le_of_ble_eq_true rfl) rfl ?_
          rintro r K1 H26 ⟨rfl, x27, rfl, h⟩ -
          show Fr mX11_rod (d + 1) 0 0 none 64 [(4, (2, (H11 ((H11 (v0 : Int).toNat 2) : Int).toNat (v1 : Int).toNat))), (0, (2, v0)), (1, (0, v1)), (2, (0, v2)), (3, (0, v3))] [(0, x27)] _ H26 _
          exact r_iret dX11_rod_64 rfl ⟨rfl, _, rfl, h⟩
      · replace h := h.2 c13
        refine r_aload_n 0 dX11_rod_35 rfl rfl ?_
        refine r_iconst dX11_rod_36 (by decide) (by decide) ?_
        refine r_invV (M := mX11_rod) (As := [(0, 2)]) (st := []) (X := v0) (mc := 0) (ms := 0) (fc := 0) (fs := 0) h ok_X11_refuse cls11 im_X11_refuse se_X11_refuse ml_RX11_88 dX11_rod_37 rfl h1 h2 (Nat.le_of_ble_eq_true rfl) rfl ?_
        rintro r K1 H28 ⟨rfl, x29, rfl, h⟩ -
        show Fr mX11_rod (d + 1) 0 0 none 40 [(0, (2, v0)), (1, (0, v1)), (2, (0, v2)), (3, (0, v3))] [(0, x29)] _ H28 _
        exact r_iret dX11_rod_40 rfl ⟨rfl, _, rfl, h⟩
  · replace h := h.2 c5
    refine r_aload_n 0 dX11_rod_8 rfl rfl ?_
    refine r_iconst dX11_rod_9 (by decide) (by decide) ?_
    refine r_invV (M := mX11_rod) (As := [(0, 1)]) (st := []) (X := v0) (mc := 0) (ms := 0) (fc := 0) (fs := 0) h ok_X11_refuse cls11 im_X11_refuse se_X11_refuse ml_RX11_88 dX11_rod_10 rfl h1 h2 (Nat.le_of_ble_eq_true rfl) rfl ?_
    rintro r K1 H30 ⟨rfl, x31, rfl, h⟩ -
    show Fr mX11_rod (d + 1) 0 0 none 13 [(0, (2, v0)), (1, (0, v1)), (2, (0, v2)), (3, (0, v3))] [(0, x31)] _ H30 _
    exact r_iret dX11_rod_13 rfl ⟨rfl, _, rfl, h⟩
set_option maxHeartbeats 4000000 in
set_option maxRecDepth 20000 in
theorem eX11_rod {d : Nat} {K : Shp} {H : Mem} {q : Int → Mem → Prop} {v0 v1 v2 v3 : Int} (h : inI v1 → inI v2 → inI v3 → Rng K H → FX11_rod_0 d K H q v0 v1 v2 v3) : Ci mX11_rod (d + 1) [(2, v0), (0, v1), (0, v2), (0, v3)] K H q := Call.of rfl (Nat.le_of_ble_eq_true rfl) (fun o r => h (o (0, v1) (by simp)) (o (0, v2) (by simp)) (o (0, v3) (by simp)) r)
def FX11_change_0 (d : Nat) (K : Shp) (H : Mem) (q : Int → Mem → Prop) (v0 : Int) (v1 : Int) (v2 : Int) (v3 : Int) : Prop := Fr mX11_change (d + 1) 0 0 none 0 [(0, (2, v0)), (1, (0, v1)), (2, (0, v2)), (3, (0, v3))] [] K H (qi K q)
set_option maxHeartbeats 4000000 in
set_option maxRecDepth 20000 in
theorem bX11_change_0 {d : Nat} {K : Shp} {H : Mem} {q : Int → Mem → Prop} {v0 v1 v2 v3 : Int} (h : ((0 : Int) ≤ v0) ∧ (K[(v0 : Int).toNat]? = some (11, 8)) ∧ Ci mX11_isRod d [(2, v0), (0, v1), (0, v2)] K H (fun x4 H3 => ((¬ (x4 : Int) = 0 → Ci mX11_isFromTo d [(0, v3), (0, 0), (0, 200)] K H3 (fun x7 H6 => ((¬ (x7 : Int) = 0 → ((0 : Int) ≤ (H6 (v0 : Int).toNat 2)) ∧ ∃ n10 : Nat, (K[((H6 (v0 : Int).toNat 2) : Int).toNat]? = some (23, n10)) ∧ ((0 : Int) ≤ v1) ∧ ((v1 : Int) < n10) ∧ ((0 : Int) ≤ (H6 ((H6 (v0 : Int).toNat 2) : Int).toNat (v1 : Int).toNat)) ∧ (K[((H6 ((H6 (v0 : Int).toNat 2) : Int).toNat (v1 : Int).toNat) : Int).toNat]? = some (4, 18)) ∧ ((0 : Int) ≤ (H6 ((H6 ((H6 (v0 : Int).toNat 2) : Int).toNat (v1 : Int).toNat) : Int).toNat 9)) ∧ ∃ n17 : Nat, (K[((H6 ((H6 ((H6 (v0 : Int).toNat 2) : Int).toNat (v1 : Int).toNat) : Int).toNat 9) : Int).toNat]? = some (20, n17)) ∧ ((0 : Int) ≤ v2) ∧ ((v2 : Int) < n17) ∧ ∀ H21 : Mem, H21 = upA H6 ((H6 ((H6 ((H6 (v0 : Int).toNat 2) : Int).toNat (v1 : Int).toNat) : Int).toNat 9) : Int).toNat (up1 (H6 ((H6 ((H6 ((H6 (v0 : Int).toNat 2) : Int).toNat (v1 : Int).toNat) : Int).toNat 9) : Int).toNat) (v2 : Int).toNat v3) → Ci mX11_allow d [(2, v0)] K H21 (fun x23 H22 => ((x23 : Int) = 0 ∨ (x23 : Int) = 1) ∧ q x23 H22)) ∧ ((x7 : Int) = 0 → Ci mX11_deny d [(2, v0), (0, 2)] K H6 (fun x26 H25 => ((x26 : Int) = 0 ∨ (x26 : Int) = 1) ∧ q x26 H25))))) ∧ ((x4 : Int) = 0 → Ci mX11_deny d [(2, v0), (0, 1)] K H3 (fun x29 H28 => ((x29 : Int) = 0 ∨ (x29 : Int) = 1) ∧ q x29 H28))))) : FX11_change_0 d K H q (v0) (v1) (v2) (v3) := by
  unfold FX11_change_0
  refine r_aload_n 0 dX11_change_0 rfl rfl ?_
  refine r_iload_n 1 dX11_change_1 rfl rfl ?_
  refine r_iload_n 2 dX11_change_2 rfl rfl ?_
  obtain ⟨h1, h⟩ := h
  obtain ⟨h2, h⟩ := h
  refine r_invV (M := mX11_change) (As := [(0, v1), (0, v2)]) (st := []) (X := v0) (mc := 0) (ms := 0) (fc := 0) (fs := 0) h ok_X11_isRod cls11 im_X11_isRod se_X11_isRod ml_RX11_109 dX11_change_3 rfl h1 h2 (Nat.le_of_ble_eq_true rfl) rfl ?_
  rintro r K1 H3 ⟨rfl, x4, rfl, h⟩ -
  show Fr mX11_change (d + 1) 0 0 none 6 [(0, (2, v0)), (1, (0, v1)), (2, (0, v2)), (3, (0, v3))] [(0, x4)] _ H3 _
  refine r_if_ne (tgt := 15) dX11_change_6 (by decide) (fun c5 => ?_) (fun c5 => ?_)
  · replace h := h.1 c5
    refine r_iload_n 3 dX11_change_15 rfl rfl ?_
    refine r_iconst dX11_change_16 (by decide) (by decide) ?_
    refine r_sipush dX11_change_17 (by decide) (by decide) ?_
    refine r_invS (M := mX11_change) (As := [(0, v3), (0, 0), (0, 200)]) (st := []) (mc := 0) (ms := 0) (fc := 0) (fs := 0) h ok_X11_isFromTo sm_X11_isFromTo ml_RX11_76 dX11_change_20 rfl (Nat.le_of_ble_eq_true rfl) rfl ?_
    rintro r K1 H6 ⟨rfl, x7, rfl, h⟩ -
    show Fr mX11_change (d + 1) 0 0 none 23 [(0, (2, v0)), (1, (0, v1)), (2, (0, v2)), (3, (0, v3))] [(0, x7)] _ H6 _
    refine r_if_ne (tgt := 32) dX11_change_23 (by decide) (fun c8 => ?_) (fun c8 => ?_)
    · replace h := h.1 c8
      refine r_aload_n 0 dX11_change_32 rfl rfl ?_
      refine r_getf cls11 2 dX11_change_33 (by decide) fl_RX11_22 rfl h1 h2 ?_
      refine r_iload_n 1 dX11_change_36 rfl rfl ?_
      obtain ⟨h9, h⟩ := h
      obtain ⟨n10, h⟩ := h
      obtain ⟨h11, h⟩ := h
      obtain ⟨h12, h⟩ := h
      obtain ⟨h13, h⟩ := h
      refine r_aald 23 n10 (by decide) dX11_change_37 h9 h11 h12 h13 ?_
      obtain ⟨h14, h⟩ := h
      obtain ⟨h15, h⟩ := h
      refine r_getf cls4 9 dX11_change_38 (by decide) fl_RX11_113 rfl h14 h15 ?_
      refine r_iload_n 2 dX11_change_41 rfl rfl ?_
      refine r_iload_n 3 dX11_change_42 rfl rfl ?_
      obtain ⟨h16, h⟩ := h
      obtain ⟨n17, h⟩ := h
      obtain ⟨h18, h⟩ := h
      obtain ⟨h19, h⟩ := h
      obtain ⟨h20, h⟩ := h
      refine r_iast n17 dX11_change_43 h16 h18 h19 h20 ?_
      replace h := h _ rfl
      generalize upA H6 ((H6 ((H6 ((H6 (v0 : Int).toNat 2) : Int).toNat (v1 : Int).toNat) : Int).toNat 9) : Int).toNat (up1 (H6 ((H6 ((H6 ((H6 (v0 : Int).toNat 2) : Int).toNat (v1 : Int).toNat) : Int).toNat 9) : Int).toNat) (v2 : Int).toNat v3) = H21 at h ⊢
      refine r_aload_n 0 dX11_change_44 rfl rfl ?_
      refine r_invV (M := mX11_change) (As := []) (st := []) (X := v0) (mc := 0) (ms := 0) (fc := 0) (fs := 0) h ok_X11_allow cls11 im_X11_allow se_X11_allow ml_RX11_84 dX11_change_45 rfl h1 h2 (Nat.le_of_ble_eq_true rfl) rfl ?_
      rintro r K1 H22 ⟨rfl, x23, rfl, h⟩ -
      show Fr mX11_change (d + 1) 0 0 none 48 [(0, (2, v0)), (1, (0, v1)), (2, (0, v2)), (3, (0, v3))] [(0, x23)] _ H22 _
      obtain ⟨h24, h⟩ := h
      exact r_zret dX11_change_48 rfl h24 ⟨rfl, _, rfl, h⟩
    · replace h := h.2 c8
      refine r_aload_n 0 dX11_change_26 rfl rfl ?_
      refine r_iconst dX11_change_27 (by decide) (by decide) ?_
      refine r_invV (M := mX11_change) (As := [(0, 2)]) (st := []) (X := v0) (mc := 0) (ms := 0) (fc := 0) (fs := 0) h ok_X11_deny cls11 im_X11_deny se_X11_deny ml_RX11_73 dX11_change_28 rfl h1 h2 (Nat.le_of_ble_eq_true rfl) rfl ?_
      rintro r K1 H25 ⟨rfl, x26, rfl, h⟩ -
      show Fr mX11_change (d + 1) 0 0 none 31 [(0, (2, v0)), (1, (0, v1)), (2, (0, v2)), (3, (0, v3))] [(0, x26)] _ H25 _
      obtain ⟨h27, h⟩ := h
      exact r_zret dX11_change_31 rfl h27 ⟨rfl, _, rfl, h⟩
  · replace h := h.2 c5
    refine r_aload_n 0 dX11_change_9 rfl rfl ?_
    refine r_iconst dX11_change_10 (by decide) (by decide) ?_
    refine r_invV (M := mX11_change) (As := [(0, 1)]) (st := []) (X := v0) (mc := 0) (ms := 0) (fc := 0) (fs := 0) h ok_X11_deny cls11 im_X11_deny se_X11_deny ml_RX11_73 dX11_change_11 rfl h1 h2 (Nat.le_of_ble_eq_true rfl) rfl ?_
    rintro r K1 H28 ⟨rfl, x29, rfl, h⟩ -
    show Fr mX11_change (d + 1) 0 0 none 14 [(0, (2, v0)), (1, (0, v1)), (2, (0, v2)), (3, (0, v3))] [(0, x29)] _ H28 _
    obtain ⟨h30, h⟩ := h
    exact r_zret dX11_change_14 rfl h30 ⟨rfl, _, rfl, h⟩
set_option maxHeartbeats 4000000 in
set_option maxRecDepth 20000 in
theorem eX11_change {d : Nat} {K : Shp} {H : Mem} {q : Int → Mem → Prop} {v0 v1 v2 v3 : Int} (h : inI v1 → inI v2 → inI v3 → Rng K H → FX11_change_0 d K H q v0 v1 v2 v3) : Ci mX11_change (d + 1) [(2, v0), (0, v1), (0, v2), (0, v3)] K H q := Call.of rfl (Nat.le_of_ble_eq_true rfl) (fun o r => h (o (0, v1) (by simp)) (o (0, v2) (by simp)) (o (0, v3) (by simp)) r)
def FX11_told_0 (d : Nat) (K : Shp) (H : Mem) (q : Int → Mem → Prop) (v0 : Int) (v1 : Int) (v2 : Int) : Prop := Fr mX11_told (d + 1) 0 0 none 0 [(0, (2, v0)), (1, (0, v1)), (2, (0, v2))] [] K H (qi K q)
set_option maxHeartbeats 4000000 in
set_option maxRecDepth 20000 in
theorem bX11_told_0 {d : Nat} {K : Shp} {H : Mem} {q : Int → Mem → Prop} {v0 v1 v2 : Int} (h : ((0 : Int) ≤ v0) ∧ (K[(v0 : Int).toNat]? = some (11, 8)) ∧ Ci mX11_isSection d [(2, v0), (0, v1)] K H (fun x4 H3 => ((¬ (x4 : Int) = 0 → ((0 : Int) ≤ (H3 (v0 : Int).toNat 2)) ∧ ∃ n7 : Nat, (K[((H3 (v0 : Int).toNat 2) : Int).toNat]? = some (23, n7)) ∧ ((0 : Int) ≤ v1) ∧ ((v1 : Int) < n7) ∧ ((v2 = 0 → ((0 : Int) ≤ (H3 ((H3 (v0 : Int).toNat 2) : Int).toNat (v1 : Int).toNat)) ∧ (K[((H3 ((H3 (v0 : Int).toNat 2) : Int).toNat (v1 : Int).toNat) : Int).toNat]? = some (4, 18)) ∧ Ci mX11_give d [(2, v0), (0, (H3 ((H3 ((H3 (v0 : Int).toNat 2) : Int).toNat (v1 : Int).toNat) : Int).toNat 0))] K H3 (fun x14 H13 => q x14 H13)) ∧ (v2 = 1 → ((0 : Int) ≤ (H3 ((H3 (v0 : Int).toNat 2) : Int).toNat (v1 : Int).toNat)) ∧ (K[((H3 ((H3 (v0 : Int).toNat 2) : Int).toNat (v1 : Int).toNat) : Int).toNat]? = some (4, 18)) ∧ Ci mX11_give d [(2, v0), (0, (H3 ((H3 ((H3 (v0 : Int).toNat 2) : Int).toNat (v1 : Int).toNat) : Int).toNat 1))] K H3 (fun x18 H17 => q x18 H17)) ∧ (v2 = 2 → ((0 : Int) ≤ (H3 ((H3 (v0 : Int).toNat 2) : Int).toNat (v1 : Int).toNat)) ∧ (K[((H3 ((H3 (v0 : Int).toNat 2) : Int).toNat (v1 : Int).toNat) : Int).toNat]? = some (4, 18)) ∧ Ci mX11_give d [(2, v0), (0, (H3 ((H3 ((H3 (v0 : Int).toNat 2) : Int).toNat (v1 : Int).toNat) : Int).toNat 3))] K H3 (fun x22 H21 => q x22 H21)) ∧ (v2 = 3 → ((0 : Int) ≤ (H3 ((H3 (v0 : Int).toNat 2) : Int).toNat (v1 : Int).toNat)) ∧ (K[((H3 ((H3 (v0 : Int).toNat 2) : Int).toNat (v1 : Int).toNat) : Int).toNat]? = some (4, 18)) ∧ Ci mX11_give d [(2, v0), (0, (H3 ((H3 ((H3 (v0 : Int).toNat 2) : Int).toNat (v1 : Int).toNat) : Int).toNat 7))] K H3 (fun x26 H25 => q x26 H25)) ∧ (v2 = 4 → ((0 : Int) ≤ (H3 ((H3 (v0 : Int).toNat 2) : Int).toNat (v1 : Int).toNat)) ∧ (K[((H3 ((H3 (v0 : Int).toNat 2) : Int).toNat (v1 : Int).toNat) : Int).toNat]? = some (4, 18)) ∧ Ci mX4_area d [(2, (H3 ((H3 (v0 : Int).toNat 2) : Int).toNat (v1 : Int).toNat))] K H3 (fun x30 H29 => Ci mX11_give d [(2, v0), (0, x30)] K H29 (fun x32 H31 => q x32 H31))) ∧ (v2 = 5 → ((0 : Int) ≤ (H3 ((H3 (v0 : Int).toNat 2) : Int).toNat (v1 : Int).toNat)) ∧ (K[((H3 ((H3 (v0 : Int).toNat 2) : Int).toNat (v1 : Int).toNat) : Int).toNat]? = some (4, 18)) ∧ Ci mX4_rodsTogether d [(2, (H3 ((H3 (v0 : Int).toNat 2) : Int).toNat (v1 : Int).toNat))] K H3 (fun x36 H35 => (inI ((H3 ((H3 ((H3 (v0 : Int).toNat 2) : Int).toNat (v1 : Int).toNat) : Int).toNat 2) + x36)) ∧ Ci mX11_give d [(2, v0), (0, ((H3 ((H3 ((H3 (v0 : Int).toNat 2) : Int).toNat (v1 : Int).toNat) : Int).toNat 2) + x36))] K H35 (fun x39 H38 => q x39 H38))) ∧ (v2 = 6 → ((0 : Int) ≤ (H3 ((H3 (v0 : Int).toNat 2) : Int).toNat (v1 : Int).toNat)) ∧ (K[((H3 ((H3 (v0 : Int).toNat 2) : Int).toNat (v1 : Int).toNat) : Int).toNat]? = some (4, 18)) ∧ Ci mX4_rodsTogether d [(2, (H3 ((H3 (v0 : Int).toNat 2) : Int).toNat (v1 : Int).toNat))] K H3 (fun x43 H42 => (inI (-x43)) ∧ Ci mX11_give d [(2, v0), (0, (-x43))] K H42 (fun x46 H45 => q x46 H45))) ∧ ((v2 < 0 ∨ 6 < v2) → Ci mX11_refuse d [(2, v0), (0, 2)] K H3 (fun x48 H47 => q x48 H47)))) ∧ ((x4 : Int) = 0 → Ci mX11_refuse d [(2, v0), (0, 1)] K H3 (fun x50 H49 => q x50 H49))))) : FX11_told_0 d K H q (v0) (v1) (v2) := by
  unfold FX11_told_0
  refine r_aload_n 0 dX11_told_0 rfl rfl ?_
  refine r_iload_n 1 dX11_told_1 rfl rfl ?_
  obtain ⟨h1, h⟩ := h
  obtain ⟨h2, h⟩ := h
  refine r_invV (M := mX11_told) (As := [(0, v1)]) (st := []) (X := v0) (mc := 0) (ms := 0) (fc := 0) (fs := 0) h ok_X11_isSection cls11 im_X11_isSection se_X11_isSection ml_RX11_69 dX11_told_2 rfl h1 h2 (Nat.le_of_ble_eq_true rfl) rfl ?_
  rintro r K1 H3 ⟨rfl, x4, rfl, h⟩ -
  show Fr mX11_told (d + 1) 0 0 none 5 [(0, (2, v0)), (1, (0, v1)), (2, (0, v2))] [(0, x4)] _ H3 _
  refine r_if_ne (tgt := 14) dX11_told_5 (by decide) (fun c5 => ?_) (fun c5 => ?_)
  · replace h := h.1 c5
    refine r_aload_n 0 dX11_told_14 rfl rfl ?_
    refine r_getf cls11 2 dX11_told_15 (by decide) fl_RX11_22 rfl h1 h2 ?_
    refine r_iload_n 1 dX11_told_18 rfl rfl ?_
    obtain ⟨h6, h⟩ := h
    obtain ⟨n7, h⟩ := h
    obtain ⟨h8, h⟩ := h
    obtain ⟨h9, h⟩ := h
    obtain ⟨h10, h⟩ := h
    refine r_aald 23 n7 (by decide) dX11_told_19 h6 h8 h9 h10 ?_
    refine r_astore_n dX11_told_20 rfl (by decide) rfl ?_
    refine r_iload_n 3 dX11_told_21 rfl rfl ?_
    refine r_table (dt := 133) dX11_told_22 (by decide) (fun j hj1 hj2 hj => ?_) (fun hj => ?_)
    · rcases (show j = 0 ∨ j = 1 ∨ j = 2 ∨ j = 3 ∨ j = 4 ∨ j = 5 ∨ j = 6 by omega) with rfl | rfl | rfl | rfl | rfl | rfl | rfl
      · refine ⟨_, 64, rfl, by decide, ?_⟩
        replace h := h.1 hj
        refine r_aload_n 1 dX11_told_64 rfl rfl ?_
        refine r_aload_n 0 dX11_told_65 rfl rfl ?_
        obtain ⟨h11, h⟩ := h
        obtain ⟨h12, h⟩ := h
        refine r_getf cls4 0 dX11_told_66 (by decide) fl_RX11_116 rfl h11 h12 ?_
        refine r_invV (M := mX11_told) (As := [(0, (H3 ((H3 ((H3 (v0 : Int).toNat 2) : Int).toNat (v1 : Int).toNat) : Int).toNat 0))]) (st := []) (X := v0) (mc := 0) (ms := 0) (fc := 0) (fs := 0) h ok_X11_give cls11 im_X11_give se_X11_give ml_RX11_99 dX11_told_69 rfl h1 h2 (Nat.le_of_ble_eq_true rfl) rfl ?_
        rintro r K1 H13 ⟨rfl, x14, rfl, h⟩ -
        show Fr mX11_told (d + 1) 0 0 none 72 [(3, (2, (H3 ((H3 (v0 : Int).toNat 2) : Int).toNat (v1 : Int).toNat))), (0, (2, v0)), (1, (0, v1)), (2, (0, v2))] [(0, x14)] _ H13 _
        exact r_iret dX11_told_72 rfl ⟨rfl, _, rfl, h⟩
      · refine ⟨_, 73, rfl, by decide, ?_⟩
        replace h := h.2.1 hj
        refine r_aload_n 1 dX11_told_73 rfl rfl ?_
        refine r_aload_n 0 dX11_told_74 rfl rfl ?_
        obtain ⟨h15, h⟩ := h
        obtain ⟨h16, h⟩ := h
        refine r_getf cls4 1 dX11_told_75 (by decide) fl_RX11_119 rfl h15 h16 ?_
        refine r_invV (M := mX11_told) (As := [(0, (H3 ((H3 ((H3 (v0 : Int).toNat 2) : Int).toNat (v1 : Int).toNat) : Int).toNat 1))]) (st := []) (X := v0) (mc := 0) (ms := 0) (fc := 0) (fs := 0) h ok_X11_give cls11 im_X11_give se_X11_give ml_RX11_99 dX11_told_78 rfl h1 h2 (Nat.le_of_ble_eq_true rfl) rfl ?_
        rintro r K1 H17 ⟨rfl, x18, rfl, h⟩ -
        show Fr mX11_told (d + 1) 0 0 none 81 [(3, (2, (H3 ((H3 (v0 : Int).toNat 2) : Int).toNat (v1 : Int).toNat))), (0, (2, v0)), (1, (0, v1)), (2, (0, v2))] [(0, x18)] _ H17 _
        exact r_iret dX11_told_81 rfl ⟨rfl, _, rfl, h⟩
      · refine ⟨_, 82, rfl, by decide, ?_⟩
        replace h := h.2.2.1 hj
        refine r_aload_n 1 dX11_told_82 rfl rfl ?_
        refine r_aload_n 0 dX11_told_83 rfl rfl ?_
        obtain ⟨h19, h⟩ := h
        obtain ⟨h20, h⟩ := h
        refine r_getf cls4 3 dX11_told_84 (by decide) fl_RX11_92 rfl h19 h20 ?_
        refine r_invV (M := mX11_told) (As := [(0, (H3 ((H3 ((H3 (v0 : Int).toNat 2) : Int).toNat (v1 : Int).toNat) : Int).toNat 3))]) (st := []) (X := v0) (mc := 0) (ms := 0) (fc := 0) (fs := 0) h ok_X11_give cls11 im_X11_give se_X11_give ml_RX11_99 dX11_told_87 rfl h1 h2 (Nat.le_of_ble_eq_true rfl) rfl ?_
        rintro r K1 H21 ⟨rfl, x22, rfl, h⟩ -
        show Fr mX11_told (d + 1) 0 0 none 90 [(3, (2, (H3 ((H3 (v0 : Int).toNat 2) : Int).toNat (v1 : Int).toNat))), (0, (2, v0)), (1, (0, v1)), (2, (0, v2))] [(0, x22)] _ H21 _
        exact r_iret dX11_told_90 rfl ⟨rfl, _, rfl, h⟩
      · refine ⟨_, 91, rfl, by decide, ?_⟩
        replace h := h.2.2.2.1 hj
        refine r_aload_n 1 dX11_told_91 rfl rfl ?_
        refine r_aload_n 0 dX11_told_92 rfl rfl ?_
        obtain ⟨h23, h⟩ := h
        obtain ⟨h24, h⟩ := h
        refine r_getf cls4 7 dX11_told_93 (by decide) fl_RX11_102 rfl h23 h24 ?_
        refine r_invV (M := mX11_told) (As := [(0, (H3 ((H3 ((H3 (v0 : Int).toNat 2) : Int).toNat (v1 : Int).toNat) : Int).toNat 7))]) (st := []) (X := v0) (mc := 0) (ms := 0) (fc := 0) (fs := 0) h ok_X11_give cls11 im_X11_give se_X11_give ml_RX11_99 dX11_told_96 rfl h1 h2 (Nat.le_of_ble_eq_true rfl) rfl ?_
        rintro r K1 H25 ⟨rfl, x26, rfl, h⟩ -
        show Fr mX11_told (d + 1) 0 0 none 99 [(3, (2, (H3 ((H3 (v0 : Int).toNat 2) : Int).toNat (v1 : Int).toNat))), (0, (2, v0)), (1, (0, v1)), (2, (0, v2))] [(0, x26)] _ H25 _
        exact r_iret dX11_told_99 rfl ⟨rfl, _, rfl, h⟩
      · refine ⟨_, 100, rfl, by decide, ?_⟩
        replace h := h.2.2.2.2.1 hj
        refine r_aload_n 1 dX11_told_100 rfl rfl ?_
        refine r_aload_n 0 dX11_told_101 rfl rfl ?_
        obtain ⟨h27, h⟩ := h
        obtain ⟨h28, h⟩ := h
        refine r_invV (M := mX11_told) (As := []) (st := [(2, v0)]) (X := (H3 ((H3 (v0 : Int).toNat 2) : Int).toNat (v1 : Int).toNat)) (mc := 0) (ms := 0) (fc := 0) (fs := 0) h ok_X4_area cls4 im_X4_area se_X4_area ml_RX11_122 dX11_told_102 rfl h27 h28 (Nat.le_of_ble_eq_true rfl) rfl ?_
        rintro r K1 H29 ⟨rfl, x30, rfl, h⟩ -
        show Fr mX11_told (d + 1) 0 0 none 105 [(3, (2, (H3 ((H3 (v0 : Int).toNat 2) : Int).toNat (v1 : Int).toNat))), (0, (2, v0)), (1, (0, v1)), (2, (0, v2))] [(0, x30), (2, v0)] _ H29 _
        refine r_invV (M := mX11_told) (As := [(0, x30)]) (st := []) (X := v0) (mc := 0) (ms := 0) (fc := 0) (fs := 0) h ok_X11_give cls11 im_X11_give se_X11_give ml_RX11_99 dX11_told_105 rfl h1 h2 (Nat.le_of_ble_eq_true rfl) rfl ?_
        rintro r K1 H31 ⟨rfl, x32, rfl, h⟩ -
        show Fr mX11_told (d + 1) 0 0 none 108 [(3, (2, (H3 ((H3 (v0 : Int).toNat 2) : Int).toNat (v1 : Int).toNat))), (0, (2, v0)), (1, (0, v1)), (2, (0, v2))] [(0, x32)] _ H31 _
        exact r_iret dX11_told_108 rfl ⟨rfl, _, rfl, h⟩
      · refine ⟨_, 109, rfl, by decide, ?_⟩
        replace h := h.2.2.2.2.2.1 hj
        refine r_aload_n 1 dX11_told_109 rfl rfl ?_
        refine r_aload_n 0 dX11_told_110 rfl rfl ?_
        obtain ⟨h33, h⟩ := h
        obtain ⟨h34, h⟩ := h
        refine r_getf cls4 2 dX11_told_111 (by decide) fl_RX11_126 rfl h33 h34 ?_
        refine r_aload_n 0 dX11_told_114 rfl rfl ?_
        refine r_invV (M := mX11_told) (As := []) (st := [(0, (H3 ((H3 ((H3 (v0 : Int).toNat 2) : Int).toNat (v1 : Int).toNat) : Int).toNat 2)), (2, v0)]) (X := (H3 ((H3 (v0 : Int).toNat 2) : Int).toNat (v1 : Int).toNat)) (mc := 0) (ms := 0) (fc := 0) (fs := 0) h ok_X4_rodsTogether cls4 im_X4_rodsTogether se_X4_rodsTogether ml_RX11_129 dX11_told_115 rfl h33 h34 (Nat.le_of_ble_eq_true rfl) rfl ?_
        rintro r K1 H35 ⟨rfl, x36, rfl, h⟩ -
        show Fr mX11_told (d + 1) 0 0 none 118 [(3, (2, (H3 ((H3 (v0 : Int).toNat 2) : Int).toNat (v1 : Int).toNat))), (0, (2, v0)), (1, (0, v1)), (2, (0, v2))] [(0, x36), (0, (H3 ((H3 ((H3 (v0 : Int).toNat 2) : Int).toNat (v1 : Int).toNat) : Int).toNat 2)), (2, v0)] _ H35 _
        obtain ⟨h37, h⟩ := h
        refine r_iadd dX11_told_118 h37 ?_
        refine r_invV (M := mX11_told) (As := [(0, ((H3 ((H3 ((H3 (v0 : Int).toNat 2) : Int).toNat (v1 : Int).toNat) : Int).toNat 2) + x36))]) (st := []) (X := v0) (mc := 0) (ms := 0) (fc := 0) (fs := 0) h ok_X11_give cls11 im_X11_give se_X11_give ml_RX11_99 dX11_told_119 rfl h1 h2 (Nat.le_of_ble_eq_true rfl) rfl ?_
        rintro r K1 H38 ⟨rfl, x39, rfl, h⟩ -
        show Fr mX11_told (d + 1) 0 0 none 122 [(3, (2, (H3 ((H3 (v0 : Int).toNat 2) : Int).toNat (v1 : Int).toNat))), (0, (2, v0)), (1, (0, v1)), (2, (0, v2))] [(0, x39)] _ H38 _
        exact r_iret dX11_told_122 rfl ⟨rfl, _, rfl, h⟩
      · refine ⟨_, 123, rfl, by decide, ?_⟩
        replace h := h.2.2.2.2.2.2.1 hj
        refine r_aload_n 1 dX11_told_123 rfl rfl ?_
        refine r_aload_n 0 dX11_told_124 rfl rfl ?_
        obtain ⟨h40, h⟩ := h
        obtain ⟨h41, h⟩ := h
        refine r_invV (M := mX11_told) (As := []) (st := [(2, v0)]) (X := (H3 ((H3 (v0 : Int).toNat 2) : Int).toNat (v1 : Int).toNat)) (mc := 0) (ms := 0) (fc := 0) (fs := 0) h ok_X4_rodsTogether cls4 im_X4_rodsTogether se_X4_rodsTogether ml_RX11_129 dX11_told_125 rfl h40 h41 (Nat.le_of_ble_eq_true rfl) rfl ?_
        rintro r K1 H42 ⟨rfl, x43, rfl, h⟩ -
        show Fr mX11_told (d + 1) 0 0 none 128 [(3, (2, (H3 ((H3 (v0 : Int).toNat 2) : Int).toNat (v1 : Int).toNat))), (0, (2, v0)), (1, (0, v1)), (2, (0, v2))] [(0, x43), (2, v0)] _ H42 _
        obtain ⟨h44, h⟩ := h
        refine r_ineg dX11_told_128 h44 ?_
        refine r_invV (M := mX11_told) (As := [(0, (-x43))]) (st := []) (X := v0) (mc := 0) (ms := 0) (fc := 0) (fs := 0) h ok_X11_give cls11 im_X11_give se_X11_give ml_RX11_99 dX11_told_129 rfl h1 h2 (Nat.le_of_ble_eq_true rfl) rfl ?_
        rintro r K1 H45 ⟨rfl, x46, rfl, h⟩ -
        show Fr mX11_told (d + 1) 0 0 none 132 [(3, (2, (H3 ((H3 (v0 : Int).toNat 2) : Int).toNat (v1 : Int).toNat))), (0, (2, v0)), (1, (0, v1)), (2, (0, v2))] [(0, x46)] _ H45 _
        exact r_iret dX11_told_132 rfl ⟨rfl, _, rfl, h⟩
    · replace h := h.2.2.2.2.2.2.2 hj
      refine r_aload_n 1 dX11_told_133 rfl rfl ?_
      refine r_iconst dX11_told_134 (by decide) (by decide) ?_
      refine r_invV (M := mX11_told) (As := [(0, 2)]) (st := []) (X := v0) (mc := 0) (ms := 0) (fc := 0) (fs := 0) h ok_X11_refuse cls11 im_X11_refuse se_X11_refuse ml_RX11_88 dX11_told_135 rfl h1 h2 (Nat.le_of_ble_eq_true rfl) rfl ?_
      rintro r K1 H47 ⟨rfl, x48, rfl, h⟩ -
      show Fr mX11_told (d + 1) 0 0 none 138 [(3, (2, (H3 ((H3 (v0 : Int).toNat 2) : Int).toNat (v1 : Int).toNat))), (0, (2, v0)), (1, (0, v1)), (2, (0, v2))] [(0, x48)] _ H47 _
      exact r_iret dX11_told_138 rfl ⟨rfl, _, rfl, h⟩
  · replace h := h.2 c5
    refine r_aload_n 0 dX11_told_8 rfl rfl ?_
    refine r_iconst dX11_told_9 (by decide) (by decide) ?_
    refine r_invV (M := mX11_told) (As := [(0, 1)]) (st := []) (X := v0) (mc := 0) (ms := 0) (fc := 0) (fs := 0) h ok_X11_refuse cls11 im_X11_refuse se_X11_refuse ml_RX11_88 dX11_told_10 rfl h1 h2 (Nat.le_of_ble_eq_true rfl) rfl ?_
    rintro r K1 H49 ⟨rfl, x50, rfl, h⟩ -
    show Fr mX11_told (d + 1) 0 0 none 13 [(0, (2, v0)), (1, (0, v1)), (2, (0, v2))] [(0, x50)] _ H49 _
    exact r_iret dX11_told_13 rfl ⟨rfl, _, rfl, h⟩
set_option maxHeartbeats 4000000 in
set_option maxRecDepth 20000 in
theorem eX11_told {d : Nat} {K : Shp} {H : Mem} {q : Int → Mem → Prop} {v0 v1 v2 : Int} (h : inI v1 → inI v2 → Rng K H → FX11_told_0 d K H q v0 v1 v2) : Ci mX11_told (d + 1) [(2, v0), (0, v1), (0, v2)] K H q := Call.of rfl (Nat.le_of_ble_eq_true rfl) (fun o r => h (o (0, v1) (by simp)) (o (0, v2) (by simp)) r)
def FX11_strength_0 (d : Nat) (K : Shp) (H : Mem) (q : Int → Mem → Prop) (v0 : Int) (v1 : Int) (v2 : Int) : Prop := Fr mX11_strength (d + 1) 0 0 none 0 [(0, (2, v0)), (1, (0, v1)), (2, (0, v2))] [] K H (qi K q)
set_option maxHeartbeats 4000000 in
set_option maxRecDepth 20000 in
theorem bX11_strength_0 {d : Nat} {K : Shp} {H : Mem} {q : Int → Mem → Prop} {v0 v1 v2 : Int} (h : ((0 : Int) ≤ v0) ∧ (K[(v0 : Int).toNat]? = some (11, 8)) ∧ Ci mX11_isRod d [(2, v0), (0, v1), (0, v2)] K H (fun x4 H3 => ((¬ (x4 : Int) = 0 → ((0 : Int) ≤ (H3 (v0 : Int).toNat 2)) ∧ ∃ n7 : Nat, (K[((H3 (v0 : Int).toNat 2) : Int).toNat]? = some (23, n7)) ∧ ((0 : Int) ≤ v1) ∧ ((v1 : Int) < n7) ∧ ((0 : Int) ≤ (H3 ((H3 (v0 : Int).toNat 2) : Int).toNat (v1 : Int).toNat)) ∧ (K[((H3 ((H3 (v0 : Int).toNat 2) : Int).toNat (v1 : Int).toNat) : Int).toNat]? = some (4, 18)) ∧ ((0 : Int) ≤ (H3 ((H3 ((H3 (v0 : Int).toNat 2) : Int).toNat (v1 : Int).toNat) : Int).toNat 9)) ∧ ∃ n14 : Nat, (K[((H3 ((H3 ((H3 (v0 : Int).toNat 2) : Int).toNat (v1 : Int).toNat) : Int).toNat 9) : Int).toNat]? = some (20, n14)) ∧ ((0 : Int) ≤ v2) ∧ ((v2 : Int) < n14) ∧ Ci mX11_give d [(2, v0), (0, (H3 ((H3 ((H3 ((H3 (v0 : Int).toNat 2) : Int).toNat (v1 : Int).toNat) : Int).toNat 9) : Int).toNat (v2 : Int).toNat))] K H3 (fun x19 H18 => q x19 H18)) ∧ ((x4 : Int) = 0 → Ci mX11_refuse d [(2, v0), (0, 1)] K H3 (fun x21 H20 => q x21 H20))))) : FX11_strength_0 d K H q (v0) (v1) (v2) := by
  unfold FX11_strength_0
  refine r_aload_n 0 dX11_strength_0 rfl rfl ?_
  refine r_iload_n 1 dX11_strength_1 rfl rfl ?_
  refine r_iload_n 2 dX11_strength_2 rfl rfl ?_
  obtain ⟨h1, h⟩ := h
  obtain ⟨h2, h⟩ := h
  refine r_invV (M := mX11_strength) (As := [(0, v1), (0, v2)]) (st := []) (X := v0) (mc := 0) (ms := 0) (fc := 0) (fs := 0) h ok_X11_isRod cls11 im_X11_isRod se_X11_isRod ml_RX11_109 dX11_strength_3 rfl h1 h2 (Nat.le_of_ble_eq_true rfl) rfl ?_
  rintro r K1 H3 ⟨rfl, x4, rfl, h⟩ -
  show Fr mX11_strength (d + 1) 0 0 none 6 [(0, (2, v0)), (1, (0, v1)), (2, (0, v2))] [(0, x4)] _ H3 _
  refine r_if_ne (tgt := 15) dX11_strength_6 (by decide) (fun c5 => ?_) (fun c5 => ?_)
  · replace h := h.1 c5
    refine r_aload_n 0 dX11_strength_15 rfl rfl ?_
    refine r_aload_n 0 dX11_strength_16 rfl rfl ?_
    refine r_getf cls11 2 dX11_strength_17 (by decide) fl_RX11_22 rfl h1 h2 ?_
    refine r_iload_n 1 dX11_strength_20 rfl rfl ?_
    obtain ⟨h6, h⟩ := h
    obtain ⟨n7, h⟩ := h
    obtain ⟨h8, h⟩ := h
    obtain ⟨h9, h⟩ := h
    obtain ⟨h10, h⟩ := h
    refine r_aald 23 n7 (by decide) dX11_strength_21 h6 h8 h9 h10 ?_
    obtain ⟨h11, h⟩ := h
    obtain ⟨h12, h⟩ := h
    refine r_getf cls4 9 dX11_strength_22 (by decide) fl_RX11_113 rfl h11 h12 ?_
    refine r_iload_n 2 dX11_strength_25 rfl rfl ?_
    obtain ⟨h13, h⟩ := h
    obtain ⟨n14, h⟩ := h
    obtain ⟨h15, h⟩ := h
    obtain ⟨h16, h⟩ := h
    obtain ⟨h17, h⟩ := h
    refine r_iald n14 dX11_strength_26 h13 h15 h16 h17 ?_
    refine r_invV (M := mX11_strength) (As := [(0, (H3 ((H3 ((H3 ((H3 (v0 : Int).toNat 2) : Int).toNat (v1 : Int).toNat) : Int).toNat 9) : Int).toNat (v2 : Int).toNat))]) (st := []) (X := v0) (mc := 0) (ms := 0) (fc := 0) (fs := 0) h ok_X11_give cls11 im_X11_give se_X11_give ml_RX11_99 dX11_strength_27 rfl h1 h2 (Nat.le_of_ble_eq_true rfl) rfl ?_
    rintro r K1 H18 ⟨rfl, x19, rfl, h⟩ -
    show Fr mX11_strength (d + 1) 0 0 none 30 [(0, (2, v0)), (1, (0, v1)), (2, (0, v2))] [(0, x19)] _ H18 _
    exact r_iret dX11_strength_30 rfl ⟨rfl, _, rfl, h⟩
  · replace h := h.2 c5
    refine r_aload_n 0 dX11_strength_9 rfl rfl ?_
    refine r_iconst dX11_strength_10 (by decide) (by decide) ?_
    refine r_invV (M := mX11_strength) (As := [(0, 1)]) (st := []) (X := v0) (mc := 0) (ms := 0) (fc := 0) (fs := 0) h ok_X11_refuse cls11 im_X11_refuse se_X11_refuse ml_RX11_88 dX11_strength_11 rfl h1 h2 (Nat.le_of_ble_eq_true rfl) rfl ?_
    rintro r K1 H20 ⟨rfl, x21, rfl, h⟩ -
    show Fr mX11_strength (d + 1) 0 0 none 14 [(0, (2, v0)), (1, (0, v1)), (2, (0, v2))] [(0, x21)] _ H20 _
    exact r_iret dX11_strength_14 rfl ⟨rfl, _, rfl, h⟩
set_option maxHeartbeats 4000000 in
set_option maxRecDepth 20000 in
theorem eX11_strength {d : Nat} {K : Shp} {H : Mem} {q : Int → Mem → Prop} {v0 v1 v2 : Int} (h : inI v1 → inI v2 → Rng K H → FX11_strength_0 d K H q v0 v1 v2) : Ci mX11_strength (d + 1) [(2, v0), (0, v1), (0, v2)] K H q := Call.of rfl (Nat.le_of_ble_eq_true rfl) (fun o r => h (o (0, v1) (by simp)) (o (0, v2) (by simp)) r)
def FX11_width_0 (d : Nat) (K : Shp) (H : Mem) (q : Int → Mem → Prop) (v0 : Int) (v1 : Int) (v2 : Int) : Prop := Fr mX11_width (d + 1) 0 0 none 0 [(0, (2, v0)), (1, (0, v1)), (2, (0, v2))] [] K H (qi K q)
set_option maxHeartbeats 4000000 in
set_option maxRecDepth 20000 in
theorem bX11_width_0 {d : Nat} {K : Shp} {H : Mem} {q : Int → Mem → Prop} {v0 v1 v2 : Int} (h : ((0 : Int) ≤ v0) ∧ (K[(v0 : Int).toNat]? = some (11, 8)) ∧ Ci mX11_isSection d [(2, v0), (0, v1)] K H (fun x4 H3 => ((¬ (x4 : Int) = 0 → Ci mX11_isFromTo d [(0, v2), (0, 0), (0, 99)] K H3 (fun x7 H6 => ((¬ (x7 : Int) = 0 → ((0 : Int) ≤ (H6 (v0 : Int).toNat 2)) ∧ ∃ n10 : Nat, (K[((H6 (v0 : Int).toNat 2) : Int).toNat]? = some (23, n10)) ∧ ((0 : Int) ≤ v1) ∧ ((v1 : Int) < n10) ∧ ((0 : Int) ≤ (H6 ((H6 (v0 : Int).toNat 2) : Int).toNat (v1 : Int).toNat)) ∧ (K[((H6 ((H6 (v0 : Int).toNat 2) : Int).toNat (v1 : Int).toNat) : Int).toNat]? = some (4, 18)) ∧ Ci mX4_widthAbove d [(2, (H6 ((H6 (v0 : Int).toNat 2) : Int).toNat (v1 : Int).toNat)), (0, v2)] K H6 (fun x17 H16 => Ci mX11_give d [(2, v0), (0, x17)] K H16 (fun x19 H18 => q x19 H18))) ∧ ((x7 : Int) = 0 → Ci mX11_refuse d [(2, v0), (0, 2)] K H6 (fun x21 H20 => q x21 H20))))) ∧ ((x4 : Int) = 0 → Ci mX11_refuse d [(2, v0), (0, 1)] K H3 (fun x23 H22 => q x23 H22))))) : FX11_width_0 d K H q (v0) (v1) (v2) := by
  unfold FX11_width_0
  refine r_aload_n 0 dX11_width_0 rfl rfl ?_
  refine r_iload_n 1 dX11_width_1 rfl rfl ?_
  obtain ⟨h1, h⟩ := h
  obtain ⟨h2, h⟩ := h
  refine r_invV (M := mX11_width) (As := [(0, v1)]) (st := []) (X := v0) (mc := 0) (ms := 0) (fc := 0) (fs := 0) h ok_X11_isSection cls11 im_X11_isSection se_X11_isSection ml_RX11_69 dX11_width_2 rfl h1 h2 (Nat.le_of_ble_eq_true rfl) rfl ?_
  rintro r K1 H3 ⟨rfl, x4, rfl, h⟩ -
  show Fr mX11_width (d + 1) 0 0 none 5 [(0, (2, v0)), (1, (0, v1)), (2, (0, v2))] [(0, x4)] _ H3 _
  refine r_if_ne (tgt := 14) dX11_width_5 (by decide) (fun c5 => ?_) (fun c5 => ?_)
  · replace h := h.1 c5
    refine r_iload_n 2 dX11_width_14 rfl rfl ?_
    refine r_iconst dX11_width_15 (by decide) (by decide) ?_
    refine r_bipush dX11_width_16 (by decide) (by decide) ?_
    refine r_invS (M := mX11_width) (As := [(0, v2), (0, 0), (0, 99)]) (st := []) (mc := 0) (ms := 0) (fc := 0) (fs := 0) h ok_X11_isFromTo sm_X11_isFromTo ml_RX11_76 dX11_width_18 rfl (Nat.le_of_ble_eq_true rfl) rfl ?_
    rintro r K1 H6 ⟨rfl, x7, rfl, h⟩ -
    show Fr mX11_width (d + 1) 0 0 none 21 [(0, (2, v0)), (1, (0, v1)), (2, (0, v2))] [(0, x7)] _ H6 _
    refine r_if_ne (tgt := 30) dX11_width_21 (by decide) (fun c8 => ?_) (fun c8 => ?_)
    · replace h := h.1 c8
      refine r_aload_n 0 dX11_width_30 rfl rfl ?_
      refine r_aload_n 0 dX11_width_31 rfl rfl ?_
      refine r_getf cls11 2 dX11_width_32 (by decide) fl_RX11_22 rfl h1 h2 ?_
      refine r_iload_n 1 dX11_width_35 rfl rfl ?_
      obtain ⟨h9, h⟩ := h
      obtain ⟨n10, h⟩ := h
      obtain ⟨h11, h⟩ := h
      obtain ⟨h12, h⟩ := h
      obtain ⟨h13, h⟩ := h
      refine r_aald 23 n10 (by decide) dX11_width_36 h9 h11 h12 h13 ?_
      refine r_iload_n 2 dX11_width_37 rfl rfl ?_
      obtain ⟨h14, h⟩ := h
      obtain ⟨h15, h⟩ := h
      refine r_invV (M := mX11_width) (As := [(0, v2)]) (st := [(2, v0)]) (X := (H6 ((H6 (v0 : Int).toNat 2) : Int).toNat (v1 : Int).toNat)) (mc := 0) (ms := 0) (fc := 0) (fs := 0) h ok_X4_widthAbove cls4 im_X4_widthAbove se_X4_widthAbove ml_RX11_132 dX11_width_38 rfl h14 h15 (Nat.le_of_ble_eq_true rfl) rfl ?_
      rintro r K1 H16 ⟨rfl, x17, rfl, h⟩ -
      show Fr mX11_width (d + 1) 0 0 none 41 [(0, (2, v0)), (1, (0, v1)), (2, (0, v2))] [(0, x17), (2, v0)] _ H16 _
      refine r_invV (M := mX11_width) (As := [(0, x17)]) (st := []) (X := v0) (mc := 0) (ms := 0) (fc := 0) (fs := 0) h ok_X11_give cls11 im_X11_give se_X11_give ml_RX11_99 dX11_width_41 rfl h1 h2 (Nat.le_of_ble_eq_true rfl) rfl ?_
      rintro r K1 H18 ⟨rfl, x19, rfl, h⟩ -
      show Fr mX11_width (d + 1) 0 0 none 44 [(0, (2, v0)), (1, (0, v1)), (2, (0, v2))] [(0, x19)] _ H18 _
      exact r_iret dX11_width_44 rfl ⟨rfl, _, rfl, h⟩
    · replace h := h.2 c8
      refine r_aload_n 0 dX11_width_24 rfl rfl ?_
      refine r_iconst dX11_width_25 (by decide) (by decide) ?_
      refine r_invV (M := mX11_width) (As := [(0, 2)]) (st := []) (X := v0) (mc := 0) (ms := 0) (fc := 0) (fs := 0) h ok_X11_refuse cls11 im_X11_refuse se_X11_refuse ml_RX11_88 dX11_width_26 rfl h1 h2 (Nat.le_of_ble_eq_true rfl) rfl ?_
      rintro r K1 H20 ⟨rfl, x21, rfl, h⟩ -
      show Fr mX11_width (d + 1) 0 0 none 29 [(0, (2, v0)), (1, (0, v1)), (2, (0, v2))] [(0, x21)] _ H20 _
      exact r_iret dX11_width_29 rfl ⟨rfl, _, rfl, h⟩
  · replace h := h.2 c5
    refine r_aload_n 0 dX11_width_8 rfl rfl ?_
    refine r_iconst dX11_width_9 (by decide) (by decide) ?_
    refine r_invV (M := mX11_width) (As := [(0, 1)]) (st := []) (X := v0) (mc := 0) (ms := 0) (fc := 0) (fs := 0) h ok_X11_refuse cls11 im_X11_refuse se_X11_refuse ml_RX11_88 dX11_width_10 rfl h1 h2 (Nat.le_of_ble_eq_true rfl) rfl ?_
    rintro r K1 H22 ⟨rfl, x23, rfl, h⟩ -
    show Fr mX11_width (d + 1) 0 0 none 13 [(0, (2, v0)), (1, (0, v1)), (2, (0, v2))] [(0, x23)] _ H22 _
    exact r_iret dX11_width_13 rfl ⟨rfl, _, rfl, h⟩
set_option maxHeartbeats 4000000 in
set_option maxRecDepth 20000 in
theorem eX11_width {d : Nat} {K : Shp} {H : Mem} {q : Int → Mem → Prop} {v0 v1 v2 : Int} (h : inI v1 → inI v2 → Rng K H → FX11_width_0 d K H q v0 v1 v2) : Ci mX11_width (d + 1) [(2, v0), (0, v1), (0, v2)] K H q := Call.of rfl (Nat.le_of_ble_eq_true rfl) (fun o r => h (o (0, v1) (by simp)) (o (0, v2) (by simp)) r)
def FX11_bend_0 (d : Nat) (K : Shp) (H : Mem) (q : Int → Mem → Prop) (v0 : Int) (v1 : Int) (v2 : Int) (v3 : Int) : Prop := Fr mX11_bend (d + 1) 0 0 none 0 [(0, (2, v0)), (1, (0, v1)), (2, (0, v2)), (3, (0, v3))] [] K H (qi K q)
set_option maxHeartbeats 4000000 in
set_option maxRecDepth 20000 in
theorem bX11_bend_0 {d : Nat} {K : Shp} {H : Mem} {q : Int → Mem → Prop} {v0 v1 v2 v3 : Int} (h : ((0 : Int) ≤ v0) ∧ (K[(v0 : Int).toNat]? = some (11, 8)) ∧ Ci mX11_walkTo d [(2, v0), (0, v1), (0, v2), (0, v3)] K H (fun x4 H3 => ((¬ (x4 : Int) = 0 → Ci mX11_refuse d [(2, v0), (0, x4)] K H3 (fun x7 H6 => q x7 H6)) ∧ ((x4 : Int) = 0 → ((0 : Int) ≤ (H3 (v0 : Int).toNat 6)) ∧ (K[((H3 (v0 : Int).toNat 6) : Int).toNat]? = some (9, 6)) ∧ Ci mX11_giveShare d [(2, v0), (2, (H3 ((H3 (v0 : Int).toNat 6) : Int).toNat 0))] K H3 (fun x11 H10 => q x11 H10))))) : FX11_bend_0 d K H q (v0) (v1) (v2) (v3) := by
  unfold FX11_bend_0
  refine r_aload_n 0 dX11_bend_0 rfl rfl ?_
  refine r_iload_n 1 dX11_bend_1 rfl rfl ?_
  refine r_iload_n 2 dX11_bend_2 rfl rfl ?_
  refine r_iload_n 3 dX11_bend_3 rfl rfl ?_
  obtain ⟨h1, h⟩ := h
  obtain ⟨h2, h⟩ := h
  refine r_invV (M := mX11_bend) (As := [(0, v1), (0, v2), (0, v3)]) (st := []) (X := v0) (mc := 0) (ms := 0) (fc := 0) (fs := 0) h ok_X11_walkTo cls11 im_X11_walkTo se_X11_walkTo ml_RX11_135 dX11_bend_4 rfl h1 h2 (Nat.le_of_ble_eq_true rfl) rfl ?_
  rintro r K1 H3 ⟨rfl, x4, rfl, h⟩ -
  show Fr mX11_bend (d + 1) 0 0 none 7 [(0, (2, v0)), (1, (0, v1)), (2, (0, v2)), (3, (0, v3))] [(0, x4)] _ H3 _
  refine r_istore dX11_bend_7 (by decide) rfl ?_
  refine r_iload 0 dX11_bend_9 rfl ?_
  refine r_if_ne (tgt := 28) dX11_bend_11 (by decide) (fun c5 => ?_) (fun c5 => ?_)
  · replace h := h.1 c5
    refine r_aload_n 1 dX11_bend_28 rfl rfl ?_
    refine r_iload 0 dX11_bend_29 rfl ?_
    refine r_invV (M := mX11_bend) (As := [(0, x4)]) (st := []) (X := v0) (mc := 0) (ms := 0) (fc := 0) (fs := 0) h ok_X11_refuse cls11 im_X11_refuse se_X11_refuse ml_RX11_88 dX11_bend_31 rfl h1 h2 (Nat.le_of_ble_eq_true rfl) rfl ?_
    rintro r K1 H6 ⟨rfl, x7, rfl, h⟩ -
    show Fr mX11_bend (d + 1) 0 0 none 34 [(4, (0, x4)), (0, (2, v0)), (1, (0, v1)), (2, (0, v2)), (3, (0, v3))] [(0, x7)] _ H6 _
    exact r_iret dX11_bend_34 rfl ⟨rfl, _, rfl, h⟩
  · replace h := h.2 c5
    refine r_aload_n 1 dX11_bend_14 rfl rfl ?_
    refine r_aload_n 1 dX11_bend_15 rfl rfl ?_
    refine r_getf cls11 6 dX11_bend_16 (by decide) fl_RX11_50 rfl h1 h2 ?_
    obtain ⟨h8, h⟩ := h
    obtain ⟨h9, h⟩ := h
    refine r_getf cls9 0 dX11_bend_19 (by decide) fl_RX11_139 rfl h8 h9 ?_
    refine r_invV (M := mX11_bend) (As := [(2, (H3 ((H3 (v0 : Int).toNat 6) : Int).toNat 0))]) (st := []) (X := v0) (mc := 0) (ms := 0) (fc := 0) (fs := 0) h ok_X11_giveShare cls11 im_X11_giveShare se_X11_giveShare ml_RX11_143 dX11_bend_22 rfl h1 h2 (Nat.le_of_ble_eq_true rfl) rfl ?_
    rintro r K1 H10 ⟨rfl, x11, rfl, h⟩ -
    show Fr mX11_bend (d + 1) 0 0 none 25 [(4, (0, x4)), (0, (2, v0)), (1, (0, v1)), (2, (0, v2)), (3, (0, v3))] [(0, x11)] _ H10 _
    refine r_goto (tgt := 34) dX11_bend_25 (by decide) ?_
    exact r_iret dX11_bend_34 rfl ⟨rfl, _, rfl, h⟩
set_option maxHeartbeats 4000000 in
set_option maxRecDepth 20000 in
theorem eX11_bend {d : Nat} {K : Shp} {H : Mem} {q : Int → Mem → Prop} {v0 v1 v2 v3 : Int} (h : inI v1 → inI v2 → inI v3 → Rng K H → FX11_bend_0 d K H q v0 v1 v2 v3) : Ci mX11_bend (d + 1) [(2, v0), (0, v1), (0, v2), (0, v3)] K H q := Call.of rfl (Nat.le_of_ble_eq_true rfl) (fun o r => h (o (0, v1) (by simp)) (o (0, v2) (by simp)) (o (0, v3) (by simp)) r)
def FX11_cut_0 (d : Nat) (K : Shp) (H : Mem) (q : Int → Mem → Prop) (v0 : Int) (v1 : Int) (v2 : Int) (v3 : Int) : Prop := Fr mX11_cut (d + 1) 0 0 none 0 [(0, (2, v0)), (1, (0, v1)), (2, (0, v2)), (3, (0, v3))] [] K H (qi K q)
set_option maxHeartbeats 4000000 in
set_option maxRecDepth 20000 in
theorem bX11_cut_0 {d : Nat} {K : Shp} {H : Mem} {q : Int → Mem → Prop} {v0 v1 v2 v3 : Int} (h : ((0 : Int) ≤ v0) ∧ (K[(v0 : Int).toNat]? = some (11, 8)) ∧ Ci mX11_walkTo d [(2, v0), (0, v1), (0, v2), (0, v3)] K H (fun x4 H3 => ((¬ (x4 : Int) = 0 → Ci mX11_refuse d [(2, v0), (0, x4)] K H3 (fun x7 H6 => q x7 H6)) ∧ ((x4 : Int) = 0 → ((0 : Int) ≤ (H3 (v0 : Int).toNat 6)) ∧ (K[((H3 (v0 : Int).toNat 6) : Int).toNat]? = some (9, 6)) ∧ Ci mX11_giveShare d [(2, v0), (2, (H3 ((H3 (v0 : Int).toNat 6) : Int).toNat 1))] K H3 (fun x11 H10 => q x11 H10))))) : FX11_cut_0 d K H q (v0) (v1) (v2) (v3) := by
  unfold FX11_cut_0
  refine r_aload_n 0 dX11_cut_0 rfl rfl ?_
  refine r_iload_n 1 dX11_cut_1 rfl rfl ?_
  refine r_iload_n 2 dX11_cut_2 rfl rfl ?_
  refine r_iload_n 3 dX11_cut_3 rfl rfl ?_
  obtain ⟨h1, h⟩ := h
  obtain ⟨h2, h⟩ := h
  refine r_invV (M := mX11_cut) (As := [(0, v1), (0, v2), (0, v3)]) (st := []) (X := v0) (mc := 0) (ms := 0) (fc := 0) (fs := 0) h ok_X11_walkTo cls11 im_X11_walkTo se_X11_walkTo ml_RX11_135 dX11_cut_4 rfl h1 h2 (Nat.le_of_ble_eq_true rfl) rfl ?_
  rintro r K1 H3 ⟨rfl, x4, rfl, h⟩ -
  show Fr mX11_cut (d + 1) 0 0 none 7 [(0, (2, v0)), (1, (0, v1)), (2, (0, v2)), (3, (0, v3))] [(0, x4)] _ H3 _
  refine r_istore dX11_cut_7 (by decide) rfl ?_
  refine r_iload 0 dX11_cut_9 rfl ?_
  refine r_if_ne (tgt := 28) dX11_cut_11 (by decide) (fun c5 => ?_) (fun c5 => ?_)
  · replace h := h.1 c5
    refine r_aload_n 1 dX11_cut_28 rfl rfl ?_
    refine r_iload 0 dX11_cut_29 rfl ?_
    refine r_invV (M := mX11_cut) (As := [(0, x4)]) (st := []) (X := v0) (mc := 0) (ms := 0) (fc := 0) (fs := 0) h ok_X11_refuse cls11 im_X11_refuse se_X11_refuse ml_RX11_88 dX11_cut_31 rfl h1 h2 (Nat.le_of_ble_eq_true rfl) rfl ?_
    rintro r K1 H6 ⟨rfl, x7, rfl, h⟩ -
    show Fr mX11_cut (d + 1) 0 0 none 34 [(4, (0, x4)), (0, (2, v0)), (1, (0, v1)), (2, (0, v2)), (3, (0, v3))] [(0, x7)] _ H6 _
    exact r_iret dX11_cut_34 rfl ⟨rfl, _, rfl, h⟩
  · replace h := h.2 c5
    refine r_aload_n 1 dX11_cut_14 rfl rfl ?_
    refine r_aload_n 1 dX11_cut_15 rfl rfl ?_
    refine r_getf cls11 6 dX11_cut_16 (by decide) fl_RX11_50 rfl h1 h2 ?_
    obtain ⟨h8, h⟩ := h
    obtain ⟨h9, h⟩ := h
    refine r_getf cls9 1 dX11_cut_19 (by decide) fl_RX11_147 rfl h8 h9 ?_
    refine r_invV (M := mX11_cut) (As := [(2, (H3 ((H3 (v0 : Int).toNat 6) : Int).toNat 1))]) (st := []) (X := v0) (mc := 0) (ms := 0) (fc := 0) (fs := 0) h ok_X11_giveShare cls11 im_X11_giveShare se_X11_giveShare ml_RX11_143 dX11_cut_22 rfl h1 h2 (Nat.le_of_ble_eq_true rfl) rfl ?_
    rintro r K1 H10 ⟨rfl, x11, rfl, h⟩ -
    show Fr mX11_cut (d + 1) 0 0 none 25 [(4, (0, x4)), (0, (2, v0)), (1, (0, v1)), (2, (0, v2)), (3, (0, v3))] [(0, x11)] _ H10 _
    refine r_goto (tgt := 34) dX11_cut_25 (by decide) ?_
    exact r_iret dX11_cut_34 rfl ⟨rfl, _, rfl, h⟩
set_option maxHeartbeats 4000000 in
set_option maxRecDepth 20000 in
theorem eX11_cut {d : Nat} {K : Shp} {H : Mem} {q : Int → Mem → Prop} {v0 v1 v2 v3 : Int} (h : inI v1 → inI v2 → inI v3 → Rng K H → FX11_cut_0 d K H q v0 v1 v2 v3) : Ci mX11_cut (d + 1) [(2, v0), (0, v1), (0, v2), (0, v3)] K H q := Call.of rfl (Nat.le_of_ble_eq_true rfl) (fun o r => h (o (0, v1) (by simp)) (o (0, v2) (by simp)) (o (0, v3) (by simp)) r)
def FX11_borne_0 (d : Nat) (K : Shp) (H : Mem) (q : Int → Mem → Prop) (v0 : Int) (v1 : Int) (v2 : Int) (v3 : Int) : Prop := Fr mX11_borne (d + 1) 0 0 none 0 [(0, (2, v0)), (1, (0, v1)), (2, (0, v2)), (3, (0, v3))] [] K H (qi K q)
set_option maxHeartbeats 4000000 in
set_option maxRecDepth 20000 in
theorem bX11_borne_0 {d : Nat} {K : Shp} {H : Mem} {q : Int → Mem → Prop} {v0 v1 v2 v3 : Int} (h : ((0 : Int) ≤ v0) ∧ (K[(v0 : Int).toNat]? = some (11, 8)) ∧ Ci mX11_isSection d [(2, v0), (0, v1)] K H (fun x4 H3 => ((¬ (x4 : Int) = 0 → Ci mX11_isNear d [(0, v2)] K H3 (fun x7 H6 => (((x7 : Int) = 0 → Ci mX11_refuse d [(2, v0), (0, 2)] K H6 (fun x10 H9 => q x10 H9)) ∧ (¬ (x7 : Int) = 0 → Ci mX11_isNear d [(0, v3)] K H6 (fun x12 H11 => ((¬ (x12 : Int) = 0 → ((0 : Int) ≤ (H11 (v0 : Int).toNat 2)) ∧ ∃ n15 : Nat, (K[((H11 (v0 : Int).toNat 2) : Int).toNat]? = some (23, n15)) ∧ ((0 : Int) ≤ v1) ∧ ((v1 : Int) < n15) ∧ Ci mX11_bears d [(2, v0), (2, (H11 ((H11 (v0 : Int).toNat 2) : Int).toNat (v1 : Int).toNat)), (0, v2), (0, v3)] K H11 (fun x20 H19 => (((x20 : Int) = 0 → Ci mX11_give d [(2, v0), (0, 0)] K H19 (fun x23 H22 => q x23 H22)) ∧ (¬ (x20 : Int) = 0 → Ci mX11_give d [(2, v0), (0, 1)] K H19 (fun x25 H24 => q x25 H24))))) ∧ ((x12 : Int) = 0 → Ci mX11_refuse d [(2, v0), (0, 2)] K H11 (fun x27 H26 => q x27 H26)))))))) ∧ ((x4 : Int) = 0 → Ci mX11_refuse d [(2, v0), (0, 1)] K H3 (fun x29 H28 => q x29 H28))))) : FX11_borne_0 d K H q (v0) (v1) (v2) (v3) := by
  unfold FX11_borne_0
  refine r_aload_n 0 dX11_borne_0 rfl rfl ?_
  refine r_iload_n 1 dX11_borne_1 rfl rfl ?_
  obtain ⟨h1, h⟩ := h
  obtain ⟨h2, h⟩ := h
  refine r_invV (M := mX11_borne) (As := [(0, v1)]) (st := []) (X := v0) (mc := 0) (ms := 0) (fc := 0) (fs := 0) h ok_X11_isSection cls11 im_X11_isSection se_X11_isSection ml_RX11_69 dX11_borne_2 rfl h1 h2 (Nat.le_of_ble_eq_true rfl) rfl ?_
  rintro r K1 H3 ⟨rfl, x4, rfl, h⟩ -
  show Fr mX11_borne (d + 1) 0 0 none 5 [(0, (2, v0)), (1, (0, v1)), (2, (0, v2)), (3, (0, v3))] [(0, x4)] _ H3 _
  refine r_if_ne (tgt := 14) dX11_borne_5 (by decide) (fun c5 => ?_) (fun c5 => ?_)
  · replace h := h.1 c5
    refine r_iload_n 2 dX11_borne_14 rfl rfl ?_
    refine r_invS (M := mX11_borne) (As := [(0, v2)]) (st := []) (mc := 0) (ms := 0) (fc := 0) (fs := 0) h ok_X11_isNear sm_X11_isNear ml_RX11_150 dX11_borne_15 rfl (Nat.le_of_ble_eq_true rfl) rfl ?_
    rintro r K1 H6 ⟨rfl, x7, rfl, h⟩ -
    show Fr mX11_borne (d + 1) 0 0 none 18 [(0, (2, v0)), (1, (0, v1)), (2, (0, v2)), (3, (0, v3))] [(0, x7)] _ H6 _
    refine r_if_eq (tgt := 28) dX11_borne_18 (by decide) (fun c8 => ?_) (fun c8 => ?_)
    · replace h := h.1 c8
      refine r_aload_n 0 dX11_borne_28 rfl rfl ?_
      refine r_iconst dX11_borne_29 (by decide) (by decide) ?_
      refine r_invV (M := mX11_borne) (As := [(0, 2)]) (st := []) (X := v0) (mc := 0) (ms := 0) (fc := 0) (fs := 0) h ok_X11_refuse cls11 im_X11_refuse se_X11_refuse ml_RX11_88 dX11_borne_30 rfl h1 h2 (Nat.le_of_ble_eq_true rfl) rfl ?_
      rintro r K1 H9 ⟨rfl, x10, rfl, h⟩ -
      show Fr mX11_borne (d + 1) 0 0 none 33 [(0, (2, v0)), (1, (0, v1)), (2, (0, v2)), (3, (0, v3))] [(0, x10)] _ H9 _
      exact r_iret dX11_borne_33 rfl ⟨rfl, _, rfl, h⟩
    · replace h := h.2 c8
      refine r_iload_n 3 dX11_borne_21 rfl rfl ?_
      refine r_invS (M := mX11_borne) (As := [(0, v3)]) (st := []) (mc := 0) (ms := 0) (fc := 0) (fs := 0) h ok_X11_isNear sm_X11_isNear ml_RX11_150 dX11_borne_22 rfl (Nat.le_of_ble_eq_true rfl) rfl ?_
      rintro r K1 H11 ⟨rfl, x12, rfl, h⟩ -
      show Fr mX11_borne (d + 1) 0 0 none 25 [(0, (2, v0)), (1, (0, v1)), (2, (0, v2)), (3, (0, v3))] [(0, x12)] _ H11 _
      refine r_if_ne (tgt := 34) dX11_borne_25 (by decide) (fun c13 => ?_) (fun c13 => ?_)
      · replace h := h.1 c13
        refine r_aload_n 0 dX11_borne_34 rfl rfl ?_
        refine r_aload_n 0 dX11_borne_35 rfl rfl ?_
        refine r_aload_n 0 dX11_borne_36 rfl rfl ?_
        refine r_getf cls11 2 dX11_borne_37 (by decide) fl_RX11_22 rfl h1 h2 ?_
        refine r_iload_n 1 dX11_borne_40 rfl rfl ?_
        obtain ⟨h14, h⟩ := h
        obtain ⟨n15, h⟩ := h
        obtain ⟨h16, h⟩ := h
        obtain ⟨h17, h⟩ := h
        obtain ⟨h18, h⟩ := h
        refine r_aald 23 n15 (by decide) dX11_borne_41 h14 h16 h17 h18 ?_
        refine r_iload_n 2 dX11_borne_42 rfl rfl ?_
        refine r_iload_n 3 dX11_borne_43 rfl rfl ?_
        refine r_invV (M := mX11_borne) (As := [(2, (H11 ((H11 (v0 : Int).toNat 2) : Int).toNat (v1 : Int).toNat)), (0, v2), (0, v3)]) (st := [(2, v0)]) (X := v0) (mc := 0) (ms := 0) (fc := 0) (fs := 0) h ok_X11_bears cls11 im_X11_bears se_X11_bears ml_RX11_153 dX11_borne_44 rfl h1 h2 (Nat.le_of_ble_eq_true rfl) rfl ?_
        rintro r K1 H19 ⟨rfl, x20, rfl, h⟩ -
        show Fr mX11_borne (d + 1) 0 0 none 47 [(0, (2, v0)), (1, (0, v1)), (2, (0, v2)), (3, (0, v3))] [(0, x20), (2, v0)] _ H19 _
        refine r_if_eq (tgt := 54) dX11_borne_47 (by decide) (fun c21 => ?_) (fun c21 => ?_)
        · replace h := h.1 c21
          refine r_iconst dX11_borne_54 (by decide) (by decide) ?_
          refine r_invV (M := mX11_borne) (As := [(0, 0)]) (st := []) (X := v0) (mc := 0) (ms := 0) (fc := 0) (fs := 0) h ok_X11_give cls11 im_X11_give se_X11_give ml_RX11_99 dX11_borne_55 rfl h1 h2 (Nat.le_of_ble_eq_true rfl) rfl ?_
          rintro r K1 H22 ⟨rfl, x23, rfl, h⟩ -
          show Fr mX11_borne (d + 1) 0 0 none 58 [(0, (2, v0)), (1, (0, v1)), (2, (0, v2)), (3, (0, v3))] [(0, x23)] _ H22 _
          exact r_iret dX11_borne_58 rfl ⟨rfl, _, rfl, h⟩
        · replace h := h.2 c21
          refine r_iconst dX11_borne_50 (by decide) (by decide) ?_
          refine r_goto (tgt := 55) dX11_borne_51 (by decide) ?_
          refine r_invV (M := mX11_borne) (As := [(0, 1)]) (st := []) (X := v0) (mc := 0) (ms := 0) (fc := 0) (fs := 0) h ok_X11_give cls11 im_X11_give se_X11_give ml_RX11_99 dX11_borne_55 rfl h1 h2 (Nat.le_of_ble_eq_true rfl) rfl ?_
          rintro r K1 H24 ⟨rfl, x25, rfl, h⟩ -
          show Fr mX11_borne (d + 1) 0 0 none 58 [(0, (2, v0)), (1, (0, v1)), (2, (0, v2)), (3, (0, v3))] [(0, x25)] _ H24 _
          exact r_iret dX11_borne_58 rfl ⟨rfl, _, rfl, h⟩
      · replace h := h.2 c13
        refine r_aload_n 0 dX11_borne_28 rfl rfl ?_
        refine r_iconst dX11_borne_29 (by decide) (by decide) ?_
        refine r_invV (M := mX11_borne) (As := [(0, 2)]) (st := []) (X := v0) (mc := 0) (ms := 0) (fc := 0) (fs := 0) h ok_X11_refuse cls11 im_X11_refuse se_X11_refuse ml_RX11_88 dX11_borne_30 rfl h1 h2 (Nat.le_of_ble_eq_true rfl) rfl ?_
        rintro r K1 H26 ⟨rfl, x27, rfl, h⟩ -
        show Fr mX11_borne (d + 1) 0 0 none 33 [(0, (2, v0)), (1, (0, v1)), (2, (0, v2)), (3, (0, v3))] [(0, x27)] _ H26 _
        exact r_iret dX11_borne_33 rfl ⟨rfl, _, rfl, h⟩
  · replace h := h.2 c5
    refine r_aload_n 0 dX11_borne_8 rfl rfl ?_
    refine r_iconst dX11_borne_9 (by decide) (by decide) ?_
    refine r_invV (M := mX11_borne) (As := [(0, 1)]) (st := []) (X := v0) (mc := 0) (ms := 0) (fc := 0) (fs := 0) h ok_X11_refuse cls11 im_X11_refuse se_X11_refuse ml_RX11_88 dX11_borne_10 rfl h1 h2 (Nat.le_of_ble_eq_true rfl) rfl ?_
    rintro r K1 H28 ⟨rfl, x29, rfl, h⟩ -
    show Fr mX11_borne (d + 1) 0 0 none 13 [(0, (2, v0)), (1, (0, v1)), (2, (0, v2)), (3, (0, v3))] [(0, x29)] _ H28 _
    exact r_iret dX11_borne_13 rfl ⟨rfl, _, rfl, h⟩
set_option maxHeartbeats 4000000 in
set_option maxRecDepth 20000 in
theorem eX11_borne {d : Nat} {K : Shp} {H : Mem} {q : Int → Mem → Prop} {v0 v1 v2 v3 : Int} (h : inI v1 → inI v2 → inI v3 → Rng K H → FX11_borne_0 d K H q v0 v1 v2 v3) : Ci mX11_borne (d + 1) [(2, v0), (0, v1), (0, v2), (0, v3)] K H q := Call.of rfl (Nat.le_of_ble_eq_true rfl) (fun o r => h (o (0, v1) (by simp)) (o (0, v2) (by simp)) (o (0, v3) (by simp)) r)
def FX11_pair_0 (d : Nat) (K : Shp) (H : Mem) (q : Int → Mem → Prop) (v0 : Int) (v1 : Int) (v2 : Int) : Prop := Fr mX11_pair (d + 1) 0 0 none 0 [(0, (2, v0)), (1, (0, v1)), (2, (0, v2))] [] K H (qi K q)
set_option maxHeartbeats 4000000 in
set_option maxRecDepth 20000 in
theorem bX11_pair_0 {d : Nat} {K : Shp} {H : Mem} {q : Int → Mem → Prop} {v0 v1 v2 : Int} (h : Ci mX11_isNear d [(0, v1)] K H (fun x2 H1 => (((x2 : Int) = 0 → ((0 : Int) ≤ v0) ∧ (K[(v0 : Int).toNat]? = some (11, 8)) ∧ Ci mX11_refuse d [(2, v0), (0, 2)] K H1 (fun x7 H6 => q x7 H6)) ∧ (¬ (x2 : Int) = 0 → Ci mX11_isNear d [(0, v2)] K H1 (fun x9 H8 => ((¬ (x9 : Int) = 0 → ((0 : Int) ≤ v0) ∧ (K[(v0 : Int).toNat]? = some (11, 8)) ∧ ((0 : Int) ≤ (H8 (v0 : Int).toNat 3)) ∧ (K[((H8 (v0 : Int).toNat 3) : Int).toNat]? = some (2, 3)) ∧ ((((H8 ((H8 (v0 : Int).toNat 3) : Int).toNat 0) : Int) < 8 → Cv mX11_forgetBests d [(2, v0)] K H8 (fun H16 => ((0 : Int) ≤ (H16 (v0 : Int).toNat 3)) ∧ (K[((H16 (v0 : Int).toNat 3) : Int).toNat]? = some (2, 3)) ∧ Ci mX2_add d [(2, (H16 (v0 : Int).toNat 3)), (0, v1), (0, v2)] K H16 (fun x21 H20 => Ci mX11_give d [(2, v0), (0, x21)] K H20 (fun x23 H22 => q x23 H22)))) ∧ (¬ ((H8 ((H8 (v0 : Int).toNat 3) : Int).toNat 0) : Int) < 8 → Ci mX11_refuse d [(2, v0), (0, 3)] K H8 (fun x25 H24 => q x25 H24)))) ∧ ((x9 : Int) = 0 → ((0 : Int) ≤ v0) ∧ (K[(v0 : Int).toNat]? = some (11, 8)) ∧ Ci mX11_refuse d [(2, v0), (0, 2)] K H8 (fun x29 H28 => q x29 H28)))))))) : FX11_pair_0 d K H q (v0) (v1) (v2) := by
  unfold FX11_pair_0
  refine r_iload_n 1 dX11_pair_0 rfl rfl ?_
  refine r_invS (M := mX11_pair) (As := [(0, v1)]) (st := []) (mc := 0) (ms := 0) (fc := 0) (fs := 0) h ok_X11_isNear sm_X11_isNear ml_RX11_150 dX11_pair_1 rfl (Nat.le_of_ble_eq_true rfl) rfl ?_
  rintro r K1 H1 ⟨rfl, x2, rfl, h⟩ -
  show Fr mX11_pair (d + 1) 0 0 none 4 [(0, (2, v0)), (1, (0, v1)), (2, (0, v2))] [(0, x2)] _ H1 _
  refine r_if_eq (tgt := 14) dX11_pair_4 (by decide) (fun c3 => ?_) (fun c3 => ?_)
  · replace h := h.1 c3
    refine r_aload_n 0 dX11_pair_14 rfl rfl ?_
    refine r_iconst dX11_pair_15 (by decide) (by decide) ?_
    obtain ⟨h4, h⟩ := h
    obtain ⟨h5, h⟩ := h
    refine r_invV (M := mX11_pair) (As := [(0, 2)]) (st := []) (X := v0) (mc := 0) (ms := 0) (fc := 0) (fs := 0) h ok_X11_refuse cls11 im_X11_refuse se_X11_refuse ml_RX11_88 dX11_pair_16 rfl h4 h5 (Nat.le_of_ble_eq_true rfl) rfl ?_
    rintro r K1 H6 ⟨rfl, x7, rfl, h⟩ -
    show Fr mX11_pair (d + 1) 0 0 none 19 [(0, (2, v0)), (1, (0, v1)), (2, (0, v2))] [(0, x7)] _ H6 _
    exact r_iret dX11_pair_19 rfl ⟨rfl, _, rfl, h⟩
  · replace h := h.2 c3
    refine r_iload_n 2 dX11_pair_7 rfl rfl ?_
    refine r_invS (M := mX11_pair) (As := [(0, v2)]) (st := []) (mc := 0) (ms := 0) (fc := 0) (fs := 0) h ok_X11_isNear sm_X11_isNear ml_RX11_150 dX11_pair_8 rfl (Nat.le_of_ble_eq_true rfl) rfl ?_
    rintro r K1 H8 ⟨rfl, x9, rfl, h⟩ -
    show Fr mX11_pair (d + 1) 0 0 none 11 [(0, (2, v0)), (1, (0, v1)), (2, (0, v2))] [(0, x9)] _ H8 _
    refine r_if_ne (tgt := 20) dX11_pair_11 (by decide) (fun c10 => ?_) (fun c10 => ?_)
    · replace h := h.1 c10
      refine r_aload_n 0 dX11_pair_20 rfl rfl ?_
      obtain ⟨h11, h⟩ := h
      obtain ⟨h12, h⟩ := h
      refine r_getf cls11 3 dX11_pair_21 (by decide) fl_RX11_29 rfl h11 h12 ?_
      obtain ⟨h13, h⟩ := h
      obtain ⟨h14, h⟩ := h
      refine r_getf cls2 0 dX11_pair_24 (by decide) fl_RX11_157 rfl h13 h14 ?_
      refine r_bipush dX11_pair_27 (by decide) (by decide) ?_
      refine r_icmp_lt (tgt := 38) dX11_pair_29 (by decide) (fun c15 => ?_) (fun c15 => ?_)
      · replace h := h.1 c15
        refine r_aload_n 0 dX11_pair_38 rfl rfl ?_
        refine r_invV (M := mX11_pair) (As := []) (st := []) (X := v0) (mc := 0) (ms := 0) (fc := 0) (fs := 0) h ok_X11_forgetBests cls11 im_X11_forgetBests se_X11_forgetBests ml_RX11_160 dX11_pair_39 rfl h11 h12 (Nat.le_of_ble_eq_true rfl) rfl ?_
        rintro r K1 H16 ⟨rfl, rfl, h⟩ -
        show Fr mX11_pair (d + 1) 0 0 none 42 [(0, (2, v0)), (1, (0, v1)), (2, (0, v2))] [] _ H16 _
        refine r_aload_n 0 dX11_pair_42 rfl rfl ?_
        refine r_aload_n 0 dX11_pair_43 rfl rfl ?_
        refine r_getf cls11 3 dX11_pair_44 (by decide) fl_RX11_29 rfl h11 h12 ?_
        refine r_iload_n 1 dX11_pair_47 rfl rfl ?_
        refine r_iload_n 2 dX11_pair_48 rfl rfl ?_
        obtain ⟨h18, h⟩ := h
        obtain ⟨h19, h⟩ := h
        refine r_invV (M := mX11_pair) (As := [(0, v1), (0, v2)]) (st := [(2, v0)]) (X := (H16 (v0 : Int).toNat 3)) (mc := 0) (ms := 0) (fc := 0) (fs := 0) h ok_X2_add cls2 im_X2_add se_X2_add ml_RX11_163 dX11_pair_49 rfl h18 h19 (Nat.le_of_ble_eq_true rfl) rfl ?_
        rintro r K1 H20 ⟨rfl, x21, rfl, h⟩ -
        show Fr mX11_pair (d + 1) 0 0 none 52 [(0, (2, v0)), (1, (0, v1)), (2, (0, v2))] [(0, x21), (2, v0)] _ H20 _
        refine r_invV (M := mX11_pair) (As := [(0, x21)]) (st := []) (X := v0) (mc := 0) (ms := 0) (fc := 0) (fs := 0) h ok_X11_give cls11 im_X11_give se_X11_give ml_RX11_99 dX11_pair_52 rfl h11 h12 (Nat.le_of_ble_eq_true rfl) rfl ?_
        rintro r K1 H22 ⟨rfl, x23, rfl, h⟩ -
        show Fr mX11_pair (d + 1) 0 0 none 55 [(0, (2, v0)), (1, (0, v1)), (2, (0, v2))] [(0, x23)] _ H22 _
        exact r_iret dX11_pair_55 rfl ⟨rfl, _, rfl, h⟩
      · replace h := h.2 c15
        refine r_aload_n 0 dX11_pair_32 rfl rfl ?_
        refine r_iconst dX11_pair_33 (by decide) (by decide) ?_
        refine r_invV (M := mX11_pair) (As := [(0, 3)]) (st := []) (X := v0) (mc := 0) (ms := 0) (fc := 0) (fs := 0) h ok_X11_refuse cls11 im_X11_refuse se_X11_refuse ml_RX11_88 dX11_pair_34 rfl h11 h12 (Nat.le_of_ble_eq_true rfl) rfl ?_
        rintro r K1 H24 ⟨rfl, x25, rfl, h⟩ -
        show Fr mX11_pair (d + 1) 0 0 none 37 [(0, (2, v0)), (1, (0, v1)), (2, (0, v2))] [(0, x25)] _ H24 _
        exact r_iret dX11_pair_37 rfl ⟨rfl, _, rfl, h⟩
    · replace h := h.2 c10
      refine r_aload_n 0 dX11_pair_14 rfl rfl ?_
      refine r_iconst dX11_pair_15 (by decide) (by decide) ?_
      obtain ⟨h26, h⟩ := h
      obtain ⟨h27, h⟩ := h
      refine r_invV (M := mX11_pair) (As := [(0, 2)]) (st := []) (X := v0) (mc := 0) (ms := 0) (fc := 0) (fs := 0) h ok_X11_refuse cls11 im_X11_refuse se_X11_refuse ml_RX11_88 dX11_pair_16 rfl h26 h27 (Nat.le_of_ble_eq_true rfl) rfl ?_
      rintro r K1 H28 ⟨rfl, x29, rfl, h⟩ -
      show Fr mX11_pair (d + 1) 0 0 none 19 [(0, (2, v0)), (1, (0, v1)), (2, (0, v2))] [(0, x29)] _ H28 _
      exact r_iret dX11_pair_19 rfl ⟨rfl, _, rfl, h⟩
set_option maxHeartbeats 4000000 in
set_option maxRecDepth 20000 in
theorem eX11_pair {d : Nat} {K : Shp} {H : Mem} {q : Int → Mem → Prop} {v0 v1 v2 : Int} (h : inI v1 → inI v2 → Rng K H → FX11_pair_0 d K H q v0 v1 v2) : Ci mX11_pair (d + 1) [(2, v0), (0, v1), (0, v2)] K H q := Call.of rfl (Nat.le_of_ble_eq_true rfl) (fun o r => h (o (0, v1) (by simp)) (o (0, v2) (by simp)) r)
def FX11_clear_0 (d : Nat) (K : Shp) (H : Mem) (q : Int → Mem → Prop) (v0 : Int) : Prop := Fr mX11_clear (d + 1) 0 0 none 0 [(0, (2, v0))] [] K H (qi K q)
set_option maxHeartbeats 4000000 in
set_option maxRecDepth 20000 in
theorem bX11_clear_0 {d : Nat} {K : Shp} {H : Mem} {q : Int → Mem → Prop} {v0 : Int} (h : ((0 : Int) ≤ v0) ∧ (K[(v0 : Int).toNat]? = some (11, 8)) ∧ Cv mX11_forgetBests d [(2, v0)] K H (fun H3 => ((0 : Int) ≤ (H3 (v0 : Int).toNat 3)) ∧ (K[((H3 (v0 : Int).toNat 3) : Int).toNat]? = some (2, 3)) ∧ ∀ H7 : Mem, H7 = upA H3 ((H3 (v0 : Int).toNat 3) : Int).toNat (up1 (H3 ((H3 (v0 : Int).toNat 3) : Int).toNat) 0 0) → Ci mX11_allow d [(2, v0)] K H7 (fun x9 H8 => ((x9 : Int) = 0 ∨ (x9 : Int) = 1) ∧ q x9 H8))) : FX11_clear_0 d K H q (v0) := by
  unfold FX11_clear_0
  refine r_aload_n 0 dX11_clear_0 rfl rfl ?_
  obtain ⟨h1, h⟩ := h
  obtain ⟨h2, h⟩ := h
  refine r_invV (M := mX11_clear) (As := []) (st := []) (X := v0) (mc := 0) (ms := 0) (fc := 0) (fs := 0) h ok_X11_forgetBests cls11 im_X11_forgetBests se_X11_forgetBests ml_RX11_160 dX11_clear_1 rfl h1 h2 (Nat.le_of_ble_eq_true rfl) rfl ?_
  rintro r K1 H3 ⟨rfl, rfl, h⟩ -
  show Fr mX11_clear (d + 1) 0 0 none 4 [(0, (2, v0))] [] _ H3 _
  refine r_aload_n 0 dX11_clear_4 rfl rfl ?_
  refine r_getf cls11 3 dX11_clear_5 (by decide) fl_RX11_29 rfl h1 h2 ?_
  refine r_iconst dX11_clear_8 (by decide) (by decide) ?_
  obtain ⟨h5, h⟩ := h
  obtain ⟨h6, h⟩ := h
  refine r_putf cls2 0 dX11_clear_9 (by decide) rfl fl_RX11_157 rfl h5 h6 (fun o => o) ?_
  replace h := h _ rfl
  generalize upA H3 ((H3 (v0 : Int).toNat 3) : Int).toNat (up1 (H3 ((H3 (v0 : Int).toNat 3) : Int).toNat) 0 0) = H7 at h ⊢
  refine r_aload_n 0 dX11_clear_12 rfl rfl ?_
  refine r_invV (M := mX11_clear) (As := []) (st := []) (X := v0) (mc := 0) (ms := 0) (fc := 0) (fs := 0) h ok_X11_allow cls11 im_X11_allow se_X11_allow ml_RX11_84 dX11_clear_13 rfl h1 h2 (Nat.le_of_ble_eq_true rfl) rfl ?_
  rintro r K1 H8 ⟨rfl, x9, rfl, h⟩ -
  show Fr mX11_clear (d + 1) 0 0 none 16 [(0, (2, v0))] [(0, x9)] _ H8 _
  obtain ⟨h10, h⟩ := h
  exact r_zret dX11_clear_16 rfl h10 ⟨rfl, _, rfl, h⟩
set_option maxHeartbeats 4000000 in
set_option maxRecDepth 20000 in
theorem eX11_clear {d : Nat} {K : Shp} {H : Mem} {q : Int → Mem → Prop} {v0 : Int} (h : Rng K H → FX11_clear_0 d K H q v0) : Ci mX11_clear (d + 1) [(2, v0)] K H q := Call.of rfl (Nat.le_of_ble_eq_true rfl) (fun o r => h  r)
def FX11_safe_0 (d : Nat) (K : Shp) (H : Mem) (q : Int → Mem → Prop) (v0 : Int) (v1 : Int) : Prop := Fr mX11_safe (d + 1) 0 0 none 0 [(0, (2, v0)), (1, (0, v1))] [] K H (qi K q)
def FX11_safe_16 (d : Nat) (K : Shp) (H : Mem) (q : Int → Mem → Prop) (v0 : Int) (v1 : Int) (v2 : Int) : Prop := Fr mX11_safe (d + 1) 0 0 none 16 [(0, (2, v0)), (1, (0, v1)), (2, (0, v2))] [] K H (qi K q)
set_option maxHeartbeats 4000000 in
set_option maxRecDepth 20000 in
theorem bX11_safe_0 {d : Nat} {K : Shp} {H : Mem} {q : Int → Mem → Prop} {v0 v1 : Int} (h : ((0 : Int) ≤ v0) ∧ (K[(v0 : Int).toNat]? = some (11, 8)) ∧ Ci mX11_isSection d [(2, v0), (0, v1)] K H (fun x4 H3 => ((¬ (x4 : Int) = 0 → FX11_safe_16 d K H3 q (v0) (v1) (0)) ∧ ((x4 : Int) = 0 → Ci mX11_refuse d [(2, v0), (0, 1)] K H3 (fun x7 H6 => q x7 H6))))) : FX11_safe_0 d K H q (v0) (v1) := by
  unfold FX11_safe_0
  refine r_aload_n 0 dX11_safe_0 rfl rfl ?_
  refine r_iload_n 1 dX11_safe_1 rfl rfl ?_
  obtain ⟨h1, h⟩ := h
  obtain ⟨h2, h⟩ := h
  refine r_invV (M := mX11_safe) (As := [(0, v1)]) (st := []) (X := v0) (mc := 0) (ms := 0) (fc := 0) (fs := 0) h ok_X11_isSection cls11 im_X11_isSection se_X11_isSection ml_RX11_69 dX11_safe_2 rfl h1 h2 (Nat.le_of_ble_eq_true rfl) rfl ?_
  rintro r K1 H3 ⟨rfl, x4, rfl, h⟩ -
  show Fr mX11_safe (d + 1) 0 0 none 5 [(0, (2, v0)), (1, (0, v1))] [(0, x4)] _ H3 _
  refine r_if_ne (tgt := 14) dX11_safe_5 (by decide) (fun c5 => ?_) (fun c5 => ?_)
  · replace h := h.1 c5
    refine r_iconst dX11_safe_14 (by decide) (by decide) ?_
    refine r_istore_n dX11_safe_15 rfl (by decide) rfl ?_
    refine Fr.fewer [1, 2, 0] rfl ?_
    exact h
  · replace h := h.2 c5
    refine r_aload_n 0 dX11_safe_8 rfl rfl ?_
    refine r_iconst dX11_safe_9 (by decide) (by decide) ?_
    refine r_invV (M := mX11_safe) (As := [(0, 1)]) (st := []) (X := v0) (mc := 0) (ms := 0) (fc := 0) (fs := 0) h ok_X11_refuse cls11 im_X11_refuse se_X11_refuse ml_RX11_88 dX11_safe_10 rfl h1 h2 (Nat.le_of_ble_eq_true rfl) rfl ?_
    rintro r K1 H6 ⟨rfl, x7, rfl, h⟩ -
    show Fr mX11_safe (d + 1) 0 0 none 13 [(0, (2, v0)), (1, (0, v1))] [(0, x7)] _ H6 _
    exact r_iret dX11_safe_13 rfl ⟨rfl, _, rfl, h⟩
set_option maxHeartbeats 4000000 in
set_option maxRecDepth 20000 in
theorem bX11_safe_16 {d : Nat} {K : Shp} {H : Mem} {q : Int → Mem → Prop} {v0 v1 v2 : Int} (h : ((0 : Int) ≤ v0) ∧ (K[(v0 : Int).toNat]? = some (11, 8)) ∧ ((0 : Int) ≤ (H (v0 : Int).toNat 3)) ∧ (K[((H (v0 : Int).toNat 3) : Int).toNat]? = some (2, 3)) ∧ ((¬ (v2 : Int) < (H ((H (v0 : Int).toNat 3) : Int).toNat 0) → Ci mX11_give d [(2, v0), (0, (-2))] K H (fun x7 H6 => q x7 H6)) ∧ ((v2 : Int) < (H ((H (v0 : Int).toNat 3) : Int).toNat 0) → ((0 : Int) ≤ (H (v0 : Int).toNat 2)) ∧ ∃ n9 : Nat, (K[((H (v0 : Int).toNat 2) : Int).toNat]? = some (23, n9)) ∧ ((0 : Int) ≤ v1) ∧ ((v1 : Int) < n9) ∧ ((0 : Int) ≤ (H ((H (v0 : Int).toNat 3) : Int).toNat 1)) ∧ ∃ n14 : Nat, (K[((H ((H (v0 : Int).toNat 3) : Int).toNat 1) : Int).toNat]? = some (20, n14)) ∧ ((0 : Int) ≤ v2) ∧ ((v2 : Int) < n14) ∧ ((0 : Int) ≤ (H ((H (v0 : Int).toNat 3) : Int).toNat 2)) ∧ ∃ n19 : Nat, (K[((H ((H (v0 : Int).toNat 3) : Int).toNat 2) : Int).toNat]? = some (20, n19)) ∧ ((v2 : Int) < n19) ∧ Ci mX11_bears d [(2, v0), (2, (H ((H (v0 : Int).toNat 2) : Int).toNat (v1 : Int).toNat)), (0, (H ((H ((H (v0 : Int).toNat 3) : Int).toNat 1) : Int).toNat (v2 : Int).toNat)), (0, (H ((H ((H (v0 : Int).toNat 3) : Int).toNat 2) : Int).toNat (v2 : Int).toNat))] K H (fun x23 H22 => ((¬ (x23 : Int) = 0 → (inI (v2 + 1)) ∧ FX11_safe_16 d K H22 q (v0) (v1) ((v2 + 1))) ∧ ((x23 : Int) = 0 → Ci mX11_give d [(2, v0), (0, v2)] K H22 (fun x27 H26 => q x27 H26))))))) : FX11_safe_16 d K H q (v0) (v1) (v2) := by
  unfold FX11_safe_16
  refine r_iload_n 2 dX11_safe_16 rfl rfl ?_
  refine r_aload_n 0 dX11_safe_17 rfl rfl ?_
  obtain ⟨h1, h⟩ := h
  obtain ⟨h2, h⟩ := h
  refine r_getf cls11 3 dX11_safe_18 (by decide) fl_RX11_29 rfl h1 h2 ?_
  obtain ⟨h3, h⟩ := h
  obtain ⟨h4, h⟩ := h
  refine r_getf cls2 0 dX11_safe_21 (by decide) fl_RX11_157 rfl h3 h4 ?_
  refine r_icmp_ge (tgt := 70) dX11_safe_24 (by decide) (fun c5 => ?_) (fun c5 => ?_)
  · replace h := h.1 c5
    refine r_aload_n 0 dX11_safe_70 rfl rfl ?_
    refine r_bipush dX11_safe_71 (by decide) (by decide) ?_
    refine r_invV (M := mX11_safe) (As := [(0, (-2))]) (st := []) (X := v0) (mc := 0) (ms := 0) (fc := 0) (fs := 0) h ok_X11_give cls11 im_X11_give se_X11_give ml_RX11_99 dX11_safe_73 rfl h1 h2 (Nat.le_of_ble_eq_true rfl) rfl ?_
    rintro r K1 H6 ⟨rfl, x7, rfl, h⟩ -
    show Fr mX11_safe (d + 1) 0 0 none 76 [(0, (2, v0)), (1, (0, v1)), (2, (0, v2))] [(0, x7)] _ H6 _
    exact r_iret dX11_safe_76 rfl ⟨rfl, _, rfl, h⟩
  · replace h := h.2 c5
    refine r_aload_n 0 dX11_safe_27 rfl rfl ?_
    refine r_aload_n 0 dX11_safe_28 rfl rfl ?_
    refine r_getf cls11 2 dX11_safe_29 (by decide) fl_RX11_22 rfl h1 h2 ?_
    refine r_iload_n 1 dX11_safe_32 rfl rfl ?_
    obtain ⟨h8, h⟩ := h
    obtain ⟨n9, h⟩ := h
    obtain ⟨h10, h⟩ := h
    obtain ⟨h11, h⟩ := h
    obtain ⟨h12, h⟩ := h
    refine r_aald 23 n9 (by decide) dX11_safe_33 h8 h10 h11 h12 ?_
    refine r_aload_n 0 dX11_safe_34 rfl rfl ?_
    refine r_getf cls11 3 dX11_safe_35 (by decide) fl_RX11_29 rfl h1 h2 ?_
    refine r_getf cls2 1 dX11_safe_38 (by decide) fl_RX11_166 rfl h3 h4 ?_
    refine r_iload_n 2 dX11_safe_41 rfl rfl ?_
    obtain ⟨h13, h⟩ := h
    obtain ⟨n14, h⟩ := h
    obtain ⟨h15, h⟩ := h
    obtain ⟨h16, h⟩ := h
    obtain ⟨h17, h⟩ := h
    refine r_iald n14 dX11_safe_42 h13 h15 h16 h17 ?_
    refine r_aload_n 0 dX11_safe_43 rfl rfl ?_
    refine r_getf cls11 3 dX11_safe_44 (by decide) fl_RX11_29 rfl h1 h2 ?_
    refine r_getf cls2 2 dX11_safe_47 (by decide) fl_RX11_169 rfl h3 h4 ?_
    refine r_iload_n 2 dX11_safe_50 rfl rfl ?_
    obtain ⟨h18, h⟩ := h
    obtain ⟨n19, h⟩ := h
    obtain ⟨h20, h⟩ := h
    obtain ⟨h21, h⟩ := h
    refine r_iald n19 dX11_safe_51 h18 h20 h16 h21 ?_
    refine r_invV (M := mX11_safe) (As := [(2, (H ((H (v0 : Int).toNat 2) : Int).toNat (v1 : Int).toNat)), (0, (H ((H ((H (v0 : Int).toNat 3) : Int).toNat 1) : Int).toNat (v2 : Int).toNat)), (0, (H ((H ((H (v0 : Int).toNat 3) : Int).toNat 2) : Int).toNat (v2 : Int).toNat))]) (st := []) (X := v0) (mc := 0) (ms := 0) (fc := 0) (fs := 0) h ok_X11_bears cls11 im_X11_bears se_X11_bears ml_RX11_153 dX11_safe_52 rfl h1 h2 (Nat.le_of_ble_eq_true rfl) rfl ?_
    rintro r K1 H22 ⟨rfl, x23, rfl, h⟩ -
    show Fr mX11_safe (d + 1) 0 0 none 55 [(0, (2, v0)), (1, (0, v1)), (2, (0, v2))] [(0, x23)] _ H22 _
    refine r_if_ne (tgt := 64) dX11_safe_55 (by decide) (fun c24 => ?_) (fun c24 => ?_)
    · replace h := h.1 c24
      obtain ⟨h25, h⟩ := h
      refine r_iinc 2 dX11_safe_64 (by decide) rfl h25 rfl ?_
      refine r_goto (tgt := 16) dX11_safe_67 (by decide) ?_
      refine Fr.fewer [1, 2, 0] rfl ?_
      exact h
    · replace h := h.2 c24
      refine r_aload_n 0 dX11_safe_58 rfl rfl ?_
      refine r_iload_n 2 dX11_safe_59 rfl rfl ?_
      refine r_invV (M := mX11_safe) (As := [(0, v2)]) (st := []) (X := v0) (mc := 0) (ms := 0) (fc := 0) (fs := 0) h ok_X11_give cls11 im_X11_give se_X11_give ml_RX11_99 dX11_safe_60 rfl h1 h2 (Nat.le_of_ble_eq_true rfl) rfl ?_
      rintro r K1 H26 ⟨rfl, x27, rfl, h⟩ -
      show Fr mX11_safe (d + 1) 0 0 none 63 [(0, (2, v0)), (1, (0, v1)), (2, (0, v2))] [(0, x27)] _ H26 _
      exact r_iret dX11_safe_63 rfl ⟨rfl, _, rfl, h⟩
set_option maxHeartbeats 4000000 in
set_option maxRecDepth 20000 in
theorem eX11_safe {d : Nat} {K : Shp} {H : Mem} {q : Int → Mem → Prop} {v0 v1 : Int} (h : inI v1 → Rng K H → FX11_safe_0 d K H q v0 v1) : Ci mX11_safe (d + 1) [(2, v0), (0, v1)] K H q := Call.of rfl (Nat.le_of_ble_eq_true rfl) (fun o r => h (o (0, v1) (by simp)) r)
def FX11_size_0 (d : Nat) (K : Shp) (H : Mem) (q : Int → Mem → Prop) (v0 : Int) (v1 : Int) (v2 : Int) : Prop := Fr mX11_size (d + 1) 0 0 none 0 [(0, (2, v0)), (1, (0, v1)), (2, (0, v2))] [] K H (qi K q)
set_option maxHeartbeats 4000000 in
set_option maxRecDepth 20000 in
theorem bX11_size_0 {d : Nat} {K : Shp} {H : Mem} {q : Int → Mem → Prop} {v0 v1 v2 : Int} (h : Ci mX11_isFromTo d [(0, v1), (0, 1), (0, 200)] K H (fun x2 H1 => (((x2 : Int) = 0 → ((0 : Int) ≤ v0) ∧ (K[(v0 : Int).toNat]? = some (11, 8)) ∧ Ci mX11_refuse d [(2, v0), (0, 2)] K H1 (fun x7 H6 => q x7 H6)) ∧ (¬ (x2 : Int) = 0 → Ci mX11_isFromTo d [(0, v2), (0, 1), (0, 10000)] K H1 (fun x9 H8 => ((¬ (x9 : Int) = 0 → ((0 : Int) ≤ v0) ∧ (K[(v0 : Int).toNat]? = some (11, 8)) ∧ ((0 : Int) ≤ (H8 (v0 : Int).toNat 4)) ∧ (K[((H8 (v0 : Int).toNat 4) : Int).toNat]? = some (6, 3)) ∧ ((((H8 ((H8 (v0 : Int).toNat 4) : Int).toNat 0) : Int) < 4 → Cv mX11_forgetBests d [(2, v0)] K H8 (fun H16 => ((0 : Int) ≤ (H16 (v0 : Int).toNat 4)) ∧ (K[((H16 (v0 : Int).toNat 4) : Int).toNat]? = some (6, 3)) ∧ Ci mX6_add d [(2, (H16 (v0 : Int).toNat 4)), (0, v1), (0, v2)] K H16 (fun x21 H20 => Ci mX11_give d [(2, v0), (0, x21)] K H20 (fun x23 H22 => q x23 H22)))) ∧ (¬ ((H8 ((H8 (v0 : Int).toNat 4) : Int).toNat 0) : Int) < 4 → Ci mX11_refuse d [(2, v0), (0, 3)] K H8 (fun x25 H24 => q x25 H24)))) ∧ ((x9 : Int) = 0 → ((0 : Int) ≤ v0) ∧ (K[(v0 : Int).toNat]? = some (11, 8)) ∧ Ci mX11_refuse d [(2, v0), (0, 2)] K H8 (fun x29 H28 => q x29 H28)))))))) : FX11_size_0 d K H q (v0) (v1) (v2) := by
  unfold FX11_size_0
  refine r_iload_n 1 dX11_size_0 rfl rfl ?_
  refine r_iconst dX11_size_1 (by decide) (by decide) ?_
  refine r_sipush dX11_size_2 (by decide) (by decide) ?_
  refine r_invS (M := mX11_size) (As := [(0, v1), (0, 1), (0, 200)]) (st := []) (mc := 0) (ms := 0) (fc := 0) (fs := 0) h ok_X11_isFromTo sm_X11_isFromTo ml_RX11_76 dX11_size_5 rfl (Nat.le_of_ble_eq_true rfl) rfl ?_
  rintro r K1 H1 ⟨rfl, x2, rfl, h⟩ -
  show Fr mX11_size (d + 1) 0 0 none 8 [(0, (2, v0)), (1, (0, v1)), (2, (0, v2))] [(0, x2)] _ H1 _
  refine r_if_eq (tgt := 22) dX11_size_8 (by decide) (fun c3 => ?_) (fun c3 => ?_)
  · replace h := h.1 c3
    refine r_aload_n 0 dX11_size_22 rfl rfl ?_
    refine r_iconst dX11_size_23 (by decide) (by decide) ?_
    obtain ⟨h4, h⟩ := h
    obtain ⟨h5, h⟩ := h
    refine r_invV (M := mX11_size) (As := [(0, 2)]) (st := []) (X := v0) (mc := 0) (ms := 0) (fc := 0) (fs := 0) h ok_X11_refuse cls11 im_X11_refuse se_X11_refuse ml_RX11_88 dX11_size_24 rfl h4 h5 (Nat.le_of_ble_eq_true rfl) rfl ?_
    rintro r K1 H6 ⟨rfl, x7, rfl, h⟩ -
    show Fr mX11_size (d + 1) 0 0 none 27 [(0, (2, v0)), (1, (0, v1)), (2, (0, v2))] [(0, x7)] _ H6 _
    exact r_iret dX11_size_27 rfl ⟨rfl, _, rfl, h⟩
  · replace h := h.2 c3
    refine r_iload_n 2 dX11_size_11 rfl rfl ?_
    refine r_iconst dX11_size_12 (by decide) (by decide) ?_
    refine r_sipush dX11_size_13 (by decide) (by decide) ?_
    refine r_invS (M := mX11_size) (As := [(0, v2), (0, 1), (0, 10000)]) (st := []) (mc := 0) (ms := 0) (fc := 0) (fs := 0) h ok_X11_isFromTo sm_X11_isFromTo ml_RX11_76 dX11_size_16 rfl (Nat.le_of_ble_eq_true rfl) rfl ?_
    rintro r K1 H8 ⟨rfl, x9, rfl, h⟩ -
    show Fr mX11_size (d + 1) 0 0 none 19 [(0, (2, v0)), (1, (0, v1)), (2, (0, v2))] [(0, x9)] _ H8 _
    refine r_if_ne (tgt := 28) dX11_size_19 (by decide) (fun c10 => ?_) (fun c10 => ?_)
    · replace h := h.1 c10
      refine r_aload_n 0 dX11_size_28 rfl rfl ?_
      obtain ⟨h11, h⟩ := h
      obtain ⟨h12, h⟩ := h
      refine r_getf cls11 4 dX11_size_29 (by decide) fl_RX11_36 rfl h11 h12 ?_
      obtain ⟨h13, h⟩ := h
      obtain ⟨h14, h⟩ := h
      refine r_getf cls6 0 dX11_size_32 (by decide) fl_RX11_172 rfl h13 h14 ?_
      refine r_iconst dX11_size_35 (by decide) (by decide) ?_
      refine r_icmp_lt (tgt := 45) dX11_size_36 (by decide) (fun c15 => ?_) (fun c15 => ?_)
      · replace h := h.1 c15
        refine r_aload_n 0 dX11_size_45 rfl rfl ?_
        refine r_invV (M := mX11_size) (As := []) (st := []) (X := v0) (mc := 0) (ms := 0) (fc := 0) (fs := 0) h ok_X11_forgetBests cls11 im_X11_forgetBests se_X11_forgetBests ml_RX11_160 dX11_size_46 rfl h11 h12 (Nat.le_of_ble_eq_true rfl) rfl ?_
        rintro r K1 H16 ⟨rfl, rfl, h⟩ -
        show Fr mX11_size (d + 1) 0 0 none 49 [(0, (2, v0)), (1, (0, v1)), (2, (0, v2))] [] _ H16 _
        refine r_aload_n 0 dX11_size_49 rfl rfl ?_
        refine r_aload_n 0 dX11_size_50 rfl rfl ?_
        refine r_getf cls11 4 dX11_size_51 (by decide) fl_RX11_36 rfl h11 h12 ?_
        refine r_iload_n 1 dX11_size_54 rfl rfl ?_
        refine r_iload_n 2 dX11_size_55 rfl rfl ?_
        obtain ⟨h18, h⟩ := h
        obtain ⟨h19, h⟩ := h
        refine r_invV (M := mX11_size) (As := [(0, v1), (0, v2)]) (st := [(2, v0)]) (X := (H16 (v0 : Int).toNat 4)) (mc := 0) (ms := 0) (fc := 0) (fs := 0) h ok_X6_add cls6 im_X6_add se_X6_add ml_RX11_173 dX11_size_56 rfl h18 h19 (Nat.le_of_ble_eq_true rfl) rfl ?_
        rintro r K1 H20 ⟨rfl, x21, rfl, h⟩ -
        show Fr mX11_size (d + 1) 0 0 none 59 [(0, (2, v0)), (1, (0, v1)), (2, (0, v2))] [(0, x21), (2, v0)] _ H20 _
        refine r_invV (M := mX11_size) (As := [(0, x21)]) (st := []) (X := v0) (mc := 0) (ms := 0) (fc := 0) (fs := 0) h ok_X11_give cls11 im_X11_give se_X11_give ml_RX11_99 dX11_size_59 rfl h11 h12 (Nat.le_of_ble_eq_true rfl) rfl ?_
        rintro r K1 H22 ⟨rfl, x23, rfl, h⟩ -
        show Fr mX11_size (d + 1) 0 0 none 62 [(0, (2, v0)), (1, (0, v1)), (2, (0, v2))] [(0, x23)] _ H22 _
        exact r_iret dX11_size_62 rfl ⟨rfl, _, rfl, h⟩
      · replace h := h.2 c15
        refine r_aload_n 0 dX11_size_39 rfl rfl ?_
        refine r_iconst dX11_size_40 (by decide) (by decide) ?_
        refine r_invV (M := mX11_size) (As := [(0, 3)]) (st := []) (X := v0) (mc := 0) (ms := 0) (fc := 0) (fs := 0) h ok_X11_refuse cls11 im_X11_refuse se_X11_refuse ml_RX11_88 dX11_size_41 rfl h11 h12 (Nat.le_of_ble_eq_true rfl) rfl ?_
        rintro r K1 H24 ⟨rfl, x25, rfl, h⟩ -
        show Fr mX11_size (d + 1) 0 0 none 44 [(0, (2, v0)), (1, (0, v1)), (2, (0, v2))] [(0, x25)] _ H24 _
        exact r_iret dX11_size_44 rfl ⟨rfl, _, rfl, h⟩
    · replace h := h.2 c10
      refine r_aload_n 0 dX11_size_22 rfl rfl ?_
      refine r_iconst dX11_size_23 (by decide) (by decide) ?_
      obtain ⟨h26, h⟩ := h
      obtain ⟨h27, h⟩ := h
      refine r_invV (M := mX11_size) (As := [(0, 2)]) (st := []) (X := v0) (mc := 0) (ms := 0) (fc := 0) (fs := 0) h ok_X11_refuse cls11 im_X11_refuse se_X11_refuse ml_RX11_88 dX11_size_24 rfl h26 h27 (Nat.le_of_ble_eq_true rfl) rfl ?_
      rintro r K1 H28 ⟨rfl, x29, rfl, h⟩ -
      show Fr mX11_size (d + 1) 0 0 none 27 [(0, (2, v0)), (1, (0, v1)), (2, (0, v2))] [(0, x29)] _ H28 _
      exact r_iret dX11_size_27 rfl ⟨rfl, _, rfl, h⟩
set_option maxHeartbeats 4000000 in
set_option maxRecDepth 20000 in
theorem eX11_size {d : Nat} {K : Shp} {H : Mem} {q : Int → Mem → Prop} {v0 v1 v2 : Int} (h : inI v1 → inI v2 → Rng K H → FX11_size_0 d K H q v0 v1 v2) : Ci mX11_size (d + 1) [(2, v0), (0, v1), (0, v2)] K H q := Call.of rfl (Nat.le_of_ble_eq_true rfl) (fun o r => h (o (0, v1) (by simp)) (o (0, v2) (by simp)) r)
def FX11_best_0 (d : Nat) (K : Shp) (H : Mem) (q : Int → Mem → Prop) (v0 : Int) (v1 : Int) : Prop := Fr mX11_best (d + 1) 0 0 none 0 [(0, (2, v0)), (1, (0, v1))] [] K H (qi K q)
set_option maxHeartbeats 4000000 in
set_option maxRecDepth 20000 in
theorem bX11_best_0 {d : Nat} {K : Shp} {H : Mem} {q : Int → Mem → Prop} {v0 v1 : Int} (h : ((0 : Int) ≤ v0) ∧ (K[(v0 : Int).toNat]? = some (11, 8)) ∧ Ci mX11_isSection d [(2, v0), (0, v1)] K H (fun x4 H3 => ((¬ (x4 : Int) = 0 → ((0 : Int) ≤ (H3 (v0 : Int).toNat 2)) ∧ ∃ n7 : Nat, (K[((H3 (v0 : Int).toNat 2) : Int).toNat]? = some (23, n7)) ∧ ((0 : Int) ≤ v1) ∧ ((v1 : Int) < n7) ∧ ((0 : Int) ≤ (H3 (v0 : Int).toNat 7)) ∧ (K[((H3 (v0 : Int).toNat 7) : Int).toNat]? = some (1, 8)) ∧ Ci mX1_findBest d [(2, (H3 (v0 : Int).toNat 7)), (2, (H3 ((H3 (v0 : Int).toNat 2) : Int).toNat (v1 : Int).toNat)), (2, (H3 (v0 : Int).toNat 3)), (2, (H3 (v0 : Int).toNat 4))] K H3 (fun x14 H13 => (((x14 : Int) = 0 → Ci mX11_refuse d [(2, v0), (0, 5)] K H13 (fun x17 H16 => q x17 H16)) ∧ (¬ (x14 : Int) = 0 → ((0 : Int) ≤ (H3 ((H3 (v0 : Int).toNat 2) : Int).toNat (v1 : Int).toNat)) ∧ (K[((H3 ((H3 (v0 : Int).toNat 2) : Int).toNat (v1 : Int).toNat) : Int).toNat]? = some (4, 18)) ∧ Ci mX11_give d [(2, v0), (0, (H13 ((H3 ((H3 (v0 : Int).toNat 2) : Int).toNat (v1 : Int).toNat) : Int).toNat 16))] K H13 (fun x21 H20 => q x21 H20))))) ∧ ((x4 : Int) = 0 → Ci mX11_refuse d [(2, v0), (0, 1)] K H3 (fun x23 H22 => q x23 H22))))) : FX11_best_0 d K H q (v0) (v1) := by
  unfold FX11_best_0
  refine r_aload_n 0 dX11_best_0 rfl rfl ?_
  refine r_iload_n 1 dX11_best_1 rfl rfl ?_
  obtain ⟨h1, h⟩ := h
  obtain ⟨h2, h⟩ := h
  refine r_invV (M := mX11_best) (As := [(0, v1)]) (st := []) (X := v0) (mc := 0) (ms := 0) (fc := 0) (fs := 0) h ok_X11_isSection cls11 im_X11_isSection se_X11_isSection ml_RX11_69 dX11_best_2 rfl h1 h2 (Nat.le_of_ble_eq_true rfl) rfl ?_
  rintro r K1 H3 ⟨rfl, x4, rfl, h⟩ -
  show Fr mX11_best (d + 1) 0 0 none 5 [(0, (2, v0)), (1, (0, v1))] [(0, x4)] _ H3 _
  refine r_if_ne (tgt := 14) dX11_best_5 (by decide) (fun c5 => ?_) (fun c5 => ?_)
  · replace h := h.1 c5
    refine r_aload_n 0 dX11_best_14 rfl rfl ?_
    refine r_getf cls11 2 dX11_best_15 (by decide) fl_RX11_22 rfl h1 h2 ?_
    refine r_iload_n 1 dX11_best_18 rfl rfl ?_
    obtain ⟨h6, h⟩ := h
    obtain ⟨n7, h⟩ := h
    obtain ⟨h8, h⟩ := h
    obtain ⟨h9, h⟩ := h
    obtain ⟨h10, h⟩ := h
    refine r_aald 23 n7 (by decide) dX11_best_19 h6 h8 h9 h10 ?_
    refine r_astore_n dX11_best_20 rfl (by decide) rfl ?_
    refine r_aload_n 1 dX11_best_21 rfl rfl ?_
    refine r_getf cls11 7 dX11_best_22 (by decide) fl_RX11_57 rfl h1 h2 ?_
    refine r_aload_n 0 dX11_best_25 rfl rfl ?_
    refine r_aload_n 1 dX11_best_26 rfl rfl ?_
    refine r_getf cls11 3 dX11_best_27 (by decide) fl_RX11_29 rfl h1 h2 ?_
    refine r_aload_n 1 dX11_best_30 rfl rfl ?_
    refine r_getf cls11 4 dX11_best_31 (by decide) fl_RX11_36 rfl h1 h2 ?_
    obtain ⟨h11, h⟩ := h
    obtain ⟨h12, h⟩ := h
    refine r_invV (M := mX11_best) (As := [(2, (H3 ((H3 (v0 : Int).toNat 2) : Int).toNat (v1 : Int).toNat)), (2, (H3 (v0 : Int).toNat 3)), (2, (H3 (v0 : Int).toNat 4))]) (st := []) (X := (H3 (v0 : Int).toNat 7)) (mc := 0) (ms := 0) (fc := 0) (fs := 0) h ok_X1_findBest cls1 im_X1_findBest se_X1_findBest ml_RX11_174 dX11_best_34 rfl h11 h12 (Nat.le_of_ble_eq_true rfl) rfl ?_
    rintro r K1 H13 ⟨rfl, x14, rfl, h⟩ -
    show Fr mX11_best (d + 1) 0 0 none 37 [(2, (2, (H3 ((H3 (v0 : Int).toNat 2) : Int).toNat (v1 : Int).toNat))), (0, (2, v0)), (1, (0, v1))] [(0, x14)] _ H13 _
    refine r_if_eq (tgt := 51) dX11_best_37 (by decide) (fun c15 => ?_) (fun c15 => ?_)
    · replace h := h.1 c15
      refine r_aload_n 1 dX11_best_51 rfl rfl ?_
      refine r_iconst dX11_best_52 (by decide) (by decide) ?_
      refine r_invV (M := mX11_best) (As := [(0, 5)]) (st := []) (X := v0) (mc := 0) (ms := 0) (fc := 0) (fs := 0) h ok_X11_refuse cls11 im_X11_refuse se_X11_refuse ml_RX11_88 dX11_best_53 rfl h1 h2 (Nat.le_of_ble_eq_true rfl) rfl ?_
      rintro r K1 H16 ⟨rfl, x17, rfl, h⟩ -
      show Fr mX11_best (d + 1) 0 0 none 56 [(2, (2, (H3 ((H3 (v0 : Int).toNat 2) : Int).toNat (v1 : Int).toNat))), (0, (2, v0)), (1, (0, v1))] [(0, x17)] _ H16 _
      exact r_iret dX11_best_56 rfl ⟨rfl, _, rfl, h⟩
    · replace h := h.2 c15
      refine r_aload_n 1 dX11_best_40 rfl rfl ?_
      refine r_aload_n 0 dX11_best_41 rfl rfl ?_
      obtain ⟨h18, h⟩ := h
      obtain ⟨h19, h⟩ := h
      refine r_getf cls4 16 dX11_best_42 (by decide) fl_RX11_178 rfl h18 h19 ?_
      refine r_invV (M := mX11_best) (As := [(0, (H13 ((H3 ((H3 (v0 : Int).toNat 2) : Int).toNat (v1 : Int).toNat) : Int).toNat 16))]) (st := []) (X := v0) (mc := 0) (ms := 0) (fc := 0) (fs := 0) h ok_X11_give cls11 im_X11_give se_X11_give ml_RX11_99 dX11_best_45 rfl h1 h2 (Nat.le_of_ble_eq_true rfl) rfl ?_
      rintro r K1 H20 ⟨rfl, x21, rfl, h⟩ -
      show Fr mX11_best (d + 1) 0 0 none 48 [(2, (2, (H3 ((H3 (v0 : Int).toNat 2) : Int).toNat (v1 : Int).toNat))), (0, (2, v0)), (1, (0, v1))] [(0, x21)] _ H20 _
      refine r_goto (tgt := 56) dX11_best_48 (by decide) ?_
      exact r_iret dX11_best_56 rfl ⟨rfl, _, rfl, h⟩
  · replace h := h.2 c5
    refine r_aload_n 0 dX11_best_8 rfl rfl ?_
    refine r_iconst dX11_best_9 (by decide) (by decide) ?_
    refine r_invV (M := mX11_best) (As := [(0, 1)]) (st := []) (X := v0) (mc := 0) (ms := 0) (fc := 0) (fs := 0) h ok_X11_refuse cls11 im_X11_refuse se_X11_refuse ml_RX11_88 dX11_best_10 rfl h1 h2 (Nat.le_of_ble_eq_true rfl) rfl ?_
    rintro r K1 H22 ⟨rfl, x23, rfl, h⟩ -
    show Fr mX11_best (d + 1) 0 0 none 13 [(0, (2, v0)), (1, (0, v1))] [(0, x23)] _ H22 _
    exact r_iret dX11_best_13 rfl ⟨rfl, _, rfl, h⟩
set_option maxHeartbeats 4000000 in
set_option maxRecDepth 20000 in
theorem eX11_best {d : Nat} {K : Shp} {H : Mem} {q : Int → Mem → Prop} {v0 v1 : Int} (h : inI v1 → Rng K H → FX11_best_0 d K H q v0 v1) : Ci mX11_best (d + 1) [(2, v0), (0, v1)] K H q := Call.of rfl (Nat.le_of_ble_eq_true rfl) (fun o r => h (o (0, v1) (by simp)) r)
def FX11_chosen_0 (d : Nat) (K : Shp) (H : Mem) (q : Int → Mem → Prop) (v0 : Int) (v1 : Int) (v2 : Int) : Prop := Fr mX11_chosen (d + 1) 0 0 none 0 [(0, (2, v0)), (1, (0, v1)), (2, (0, v2))] [] K H (qi K q)
set_option maxHeartbeats 4000000 in
set_option maxRecDepth 20000 in
theorem bX11_chosen_0 {d : Nat} {K : Shp} {H : Mem} {q : Int → Mem → Prop} {v0 v1 v2 : Int} (h : ((0 : Int) ≤ v0) ∧ (K[(v0 : Int).toNat]? = some (11, 8)) ∧ Ci mX11_isRod d [(2, v0), (0, v1), (0, v2)] K H (fun x4 H3 => ((¬ (x4 : Int) = 0 → ((0 : Int) ≤ (H3 (v0 : Int).toNat 2)) ∧ ∃ n7 : Nat, (K[((H3 (v0 : Int).toNat 2) : Int).toNat]? = some (23, n7)) ∧ ((0 : Int) ≤ v1) ∧ ((v1 : Int) < n7) ∧ ((0 : Int) ≤ (H3 (v0 : Int).toNat 7)) ∧ (K[((H3 (v0 : Int).toNat 7) : Int).toNat]? = some (1, 8)) ∧ Ci mX1_findBest d [(2, (H3 (v0 : Int).toNat 7)), (2, (H3 ((H3 (v0 : Int).toNat 2) : Int).toNat (v1 : Int).toNat)), (2, (H3 (v0 : Int).toNat 3)), (2, (H3 (v0 : Int).toNat 4))] K H3 (fun x14 H13 => (((x14 : Int) = 0 → Ci mX11_refuse d [(2, v0), (0, 5)] K H13 (fun x17 H16 => q x17 H16)) ∧ (¬ (x14 : Int) = 0 → ((0 : Int) ≤ (H3 ((H3 (v0 : Int).toNat 2) : Int).toNat (v1 : Int).toNat)) ∧ (K[((H3 ((H3 (v0 : Int).toNat 2) : Int).toNat (v1 : Int).toNat) : Int).toNat]? = some (4, 18)) ∧ ((0 : Int) ≤ (H13 ((H3 ((H3 (v0 : Int).toNat 2) : Int).toNat (v1 : Int).toNat) : Int).toNat 17)) ∧ ∃ n21 : Nat, (K[((H13 ((H3 ((H3 (v0 : Int).toNat 2) : Int).toNat (v1 : Int).toNat) : Int).toNat 17) : Int).toNat]? = some (20, n21)) ∧ ((0 : Int) ≤ v2) ∧ ((v2 : Int) < n21) ∧ Ci mX11_give d [(2, v0), (0, (H13 ((H13 ((H3 ((H3 (v0 : Int).toNat 2) : Int).toNat (v1 : Int).toNat) : Int).toNat 17) : Int).toNat (v2 : Int).toNat))] K H13 (fun x26 H25 => q x26 H25))))) ∧ ((x4 : Int) = 0 → Ci mX11_refuse d [(2, v0), (0, 1)] K H3 (fun x28 H27 => q x28 H27))))) : FX11_chosen_0 d K H q (v0) (v1) (v2) := by
  unfold FX11_chosen_0
  refine r_aload_n 0 dX11_chosen_0 rfl rfl ?_
  refine r_iload_n 1 dX11_chosen_1 rfl rfl ?_
  refine r_iload_n 2 dX11_chosen_2 rfl rfl ?_
  obtain ⟨h1, h⟩ := h
  obtain ⟨h2, h⟩ := h
  refine r_invV (M := mX11_chosen) (As := [(0, v1), (0, v2)]) (st := []) (X := v0) (mc := 0) (ms := 0) (fc := 0) (fs := 0) h ok_X11_isRod cls11 im_X11_isRod se_X11_isRod ml_RX11_109 dX11_chosen_3 rfl h1 h2 (Nat.le_of_ble_eq_true rfl) rfl ?_
  rintro r K1 H3 ⟨rfl, x4, rfl, h⟩ -
  show Fr mX11_chosen (d + 1) 0 0 none 6 [(0, (2, v0)), (1, (0, v1)), (2, (0, v2))] [(0, x4)] _ H3 _
  refine r_if_ne (tgt := 15) dX11_chosen_6 (by decide) (fun c5 => ?_) (fun c5 => ?_)
  · replace h := h.1 c5
    refine r_aload_n 0 dX11_chosen_15 rfl rfl ?_
    refine r_getf cls11 2 dX11_chosen_16 (by decide) fl_RX11_22 rfl h1 h2 ?_
    refine r_iload_n 1 dX11_chosen_19 rfl rfl ?_
    obtain ⟨h6, h⟩ := h
    obtain ⟨n7, h⟩ := h
    obtain ⟨h8, h⟩ := h
    obtain ⟨h9, h⟩ := h
    obtain ⟨h10, h⟩ := h
    refine r_aald 23 n7 (by decide) dX11_chosen_20 h6 h8 h9 h10 ?_
    refine r_astore_n dX11_chosen_21 rfl (by decide) rfl ?_
    refine r_aload_n 1 dX11_chosen_22 rfl rfl ?_
    refine r_getf cls11 7 dX11_chosen_23 (by decide) fl_RX11_57 rfl h1 h2 ?_
    refine r_aload_n 0 dX11_chosen_26 rfl rfl ?_
    refine r_aload_n 1 dX11_chosen_27 rfl rfl ?_
    refine r_getf cls11 3 dX11_chosen_28 (by decide) fl_RX11_29 rfl h1 h2 ?_
    refine r_aload_n 1 dX11_chosen_31 rfl rfl ?_
    refine r_getf cls11 4 dX11_chosen_32 (by decide) fl_RX11_36 rfl h1 h2 ?_
    obtain ⟨h11, h⟩ := h
    obtain ⟨h12, h⟩ := h
    refine r_invV (M := mX11_chosen) (As := [(2, (H3 ((H3 (v0 : Int).toNat 2) : Int).toNat (v1 : Int).toNat)), (2, (H3 (v0 : Int).toNat 3)), (2, (H3 (v0 : Int).toNat 4))]) (st := []) (X := (H3 (v0 : Int).toNat 7)) (mc := 0) (ms := 0) (fc := 0) (fs := 0) h ok_X1_findBest cls1 im_X1_findBest se_X1_findBest ml_RX11_174 dX11_chosen_35 rfl h11 h12 (Nat.le_of_ble_eq_true rfl) rfl ?_
    rintro r K1 H13 ⟨rfl, x14, rfl, h⟩ -
    show Fr mX11_chosen (d + 1) 0 0 none 38 [(3, (2, (H3 ((H3 (v0 : Int).toNat 2) : Int).toNat (v1 : Int).toNat))), (0, (2, v0)), (1, (0, v1)), (2, (0, v2))] [(0, x14)] _ H13 _
    refine r_if_eq (tgt := 54) dX11_chosen_38 (by decide) (fun c15 => ?_) (fun c15 => ?_)
    · replace h := h.1 c15
      refine r_aload_n 1 dX11_chosen_54 rfl rfl ?_
      refine r_iconst dX11_chosen_55 (by decide) (by decide) ?_
      refine r_invV (M := mX11_chosen) (As := [(0, 5)]) (st := []) (X := v0) (mc := 0) (ms := 0) (fc := 0) (fs := 0) h ok_X11_refuse cls11 im_X11_refuse se_X11_refuse ml_RX11_88 dX11_chosen_56 rfl h1 h2 (Nat.le_of_ble_eq_true rfl) rfl ?_
      rintro r K1 H16 ⟨rfl, x17, rfl, h⟩ -
      show Fr mX11_chosen (d + 1) 0 0 none 59 [(3, (2, (H3 ((H3 (v0 : Int).toNat 2) : Int).toNat (v1 : Int).toNat))), (0, (2, v0)), (1, (0, v1)), (2, (0, v2))] [(0, x17)] _ H16 _
      exact r_iret dX11_chosen_59 rfl ⟨rfl, _, rfl, h⟩
    · replace h := h.2 c15
      refine r_aload_n 1 dX11_chosen_41 rfl rfl ?_
      refine r_aload_n 0 dX11_chosen_42 rfl rfl ?_
      obtain ⟨h18, h⟩ := h
      obtain ⟨h19, h⟩ := h
      refine r_getf cls4 17 dX11_chosen_43 (by decide) fl_RX11_181 rfl h18 h19 ?_
      refine r_iload_n 3 dX11_chosen_46 rfl rfl ?_
      obtain ⟨h20, h⟩ := h
      obtain ⟨n21, h⟩ := h
      obtain ⟨h22, h⟩ := h
      obtain ⟨h23, h⟩ := h
      obtain ⟨h24, h⟩ := h
      refine r_iald n21 dX11_chosen_47 h20 h22 h23 h24 ?_
      refine r_invV (M := mX11_chosen) (As := [(0, (H13 ((H13 ((H3 ((H3 (v0 : Int).toNat 2) : Int).toNat (v1 : Int).toNat) : Int).toNat 17) : Int).toNat (v2 : Int).toNat))]) (st := []) (X := v0) (mc := 0) (ms := 0) (fc := 0) (fs := 0) h ok_X11_give cls11 im_X11_give se_X11_give ml_RX11_99 dX11_chosen_48 rfl h1 h2 (Nat.le_of_ble_eq_true rfl) rfl ?_
      rintro r K1 H25 ⟨rfl, x26, rfl, h⟩ -
      show Fr mX11_chosen (d + 1) 0 0 none 51 [(3, (2, (H3 ((H3 (v0 : Int).toNat 2) : Int).toNat (v1 : Int).toNat))), (0, (2, v0)), (1, (0, v1)), (2, (0, v2))] [(0, x26)] _ H25 _
      refine r_goto (tgt := 59) dX11_chosen_51 (by decide) ?_
      exact r_iret dX11_chosen_59 rfl ⟨rfl, _, rfl, h⟩
  · replace h := h.2 c5
    refine r_aload_n 0 dX11_chosen_9 rfl rfl ?_
    refine r_iconst dX11_chosen_10 (by decide) (by decide) ?_
    refine r_invV (M := mX11_chosen) (As := [(0, 1)]) (st := []) (X := v0) (mc := 0) (ms := 0) (fc := 0) (fs := 0) h ok_X11_refuse cls11 im_X11_refuse se_X11_refuse ml_RX11_88 dX11_chosen_11 rfl h1 h2 (Nat.le_of_ble_eq_true rfl) rfl ?_
    rintro r K1 H27 ⟨rfl, x28, rfl, h⟩ -
    show Fr mX11_chosen (d + 1) 0 0 none 14 [(0, (2, v0)), (1, (0, v1)), (2, (0, v2))] [(0, x28)] _ H27 _
    exact r_iret dX11_chosen_14 rfl ⟨rfl, _, rfl, h⟩
set_option maxHeartbeats 4000000 in
set_option maxRecDepth 20000 in
theorem eX11_chosen {d : Nat} {K : Shp} {H : Mem} {q : Int → Mem → Prop} {v0 v1 v2 : Int} (h : inI v1 → inI v2 → Rng K H → FX11_chosen_0 d K H q v0 v1 v2) : Ci mX11_chosen (d + 1) [(2, v0), (0, v1), (0, v2)] K H q := Call.of rfl (Nat.le_of_ble_eq_true rfl) (fun o r => h (o (0, v1) (by simp)) (o (0, v2) (by simp)) r)
def FX11_take_0 (d : Nat) (K : Shp) (H : Mem) (q : Int → Mem → Prop) (v0 : Int) (v1 : Int) : Prop := Fr mX11_take (d + 1) 0 0 none 0 [(0, (2, v0)), (1, (0, v1))] [] K H (qi K q)
set_option maxHeartbeats 4000000 in
set_option maxRecDepth 20000 in
theorem bX11_take_0 {d : Nat} {K : Shp} {H : Mem} {q : Int → Mem → Prop} {v0 v1 : Int} (h : ((0 : Int) ≤ v0) ∧ (K[(v0 : Int).toNat]? = some (11, 8)) ∧ Ci mX11_isSection d [(2, v0), (0, v1)] K H (fun x4 H3 => ((¬ (x4 : Int) = 0 → ((0 : Int) ≤ (H3 (v0 : Int).toNat 2)) ∧ ∃ n7 : Nat, (K[((H3 (v0 : Int).toNat 2) : Int).toNat]? = some (23, n7)) ∧ ((0 : Int) ≤ v1) ∧ ((v1 : Int) < n7) ∧ ((0 : Int) ≤ (H3 (v0 : Int).toNat 7)) ∧ (K[((H3 (v0 : Int).toNat 7) : Int).toNat]? = some (1, 8)) ∧ Ci mX1_findBest d [(2, (H3 (v0 : Int).toNat 7)), (2, (H3 ((H3 (v0 : Int).toNat 2) : Int).toNat (v1 : Int).toNat)), (2, (H3 (v0 : Int).toNat 3)), (2, (H3 (v0 : Int).toNat 4))] K H3 (fun x14 H13 => (((x14 : Int) = 0 → Ci mX11_refuse d [(2, v0), (0, 5)] K H13 (fun x17 H16 => q x17 H16)) ∧ (¬ (x14 : Int) = 0 → Ci mX11_carryOut d [(2, v0), (2, (H3 ((H3 (v0 : Int).toNat 2) : Int).toNat (v1 : Int).toNat))] K H13 (fun x19 H18 => Ci mX11_give d [(2, v0), (0, x19)] K H18 (fun x21 H20 => q x21 H20)))))) ∧ ((x4 : Int) = 0 → Ci mX11_refuse d [(2, v0), (0, 1)] K H3 (fun x23 H22 => q x23 H22))))) : FX11_take_0 d K H q (v0) (v1) := by
  unfold FX11_take_0
  refine r_aload_n 0 dX11_take_0 rfl rfl ?_
  refine r_iload_n 1 dX11_take_1 rfl rfl ?_
  obtain ⟨h1, h⟩ := h
  obtain ⟨h2, h⟩ := h
  refine r_invV (M := mX11_take) (As := [(0, v1)]) (st := []) (X := v0) (mc := 0) (ms := 0) (fc := 0) (fs := 0) h ok_X11_isSection cls11 im_X11_isSection se_X11_isSection ml_RX11_69 dX11_take_2 rfl h1 h2 (Nat.le_of_ble_eq_true rfl) rfl ?_
  rintro r K1 H3 ⟨rfl, x4, rfl, h⟩ -
  show Fr mX11_take (d + 1) 0 0 none 5 [(0, (2, v0)), (1, (0, v1))] [(0, x4)] _ H3 _
  refine r_if_ne (tgt := 14) dX11_take_5 (by decide) (fun c5 => ?_) (fun c5 => ?_)
  · replace h := h.1 c5
    refine r_aload_n 0 dX11_take_14 rfl rfl ?_
    refine r_getf cls11 2 dX11_take_15 (by decide) fl_RX11_22 rfl h1 h2 ?_
    refine r_iload_n 1 dX11_take_18 rfl rfl ?_
    obtain ⟨h6, h⟩ := h
    obtain ⟨n7, h⟩ := h
    obtain ⟨h8, h⟩ := h
    obtain ⟨h9, h⟩ := h
    obtain ⟨h10, h⟩ := h
    refine r_aald 23 n7 (by decide) dX11_take_19 h6 h8 h9 h10 ?_
    refine r_astore_n dX11_take_20 rfl (by decide) rfl ?_
    refine r_aload_n 1 dX11_take_21 rfl rfl ?_
    refine r_getf cls11 7 dX11_take_22 (by decide) fl_RX11_57 rfl h1 h2 ?_
    refine r_aload_n 0 dX11_take_25 rfl rfl ?_
    refine r_aload_n 1 dX11_take_26 rfl rfl ?_
    refine r_getf cls11 3 dX11_take_27 (by decide) fl_RX11_29 rfl h1 h2 ?_
    refine r_aload_n 1 dX11_take_30 rfl rfl ?_
    refine r_getf cls11 4 dX11_take_31 (by decide) fl_RX11_36 rfl h1 h2 ?_
    obtain ⟨h11, h⟩ := h
    obtain ⟨h12, h⟩ := h
    refine r_invV (M := mX11_take) (As := [(2, (H3 ((H3 (v0 : Int).toNat 2) : Int).toNat (v1 : Int).toNat)), (2, (H3 (v0 : Int).toNat 3)), (2, (H3 (v0 : Int).toNat 4))]) (st := []) (X := (H3 (v0 : Int).toNat 7)) (mc := 0) (ms := 0) (fc := 0) (fs := 0) h ok_X1_findBest cls1 im_X1_findBest se_X1_findBest ml_RX11_174 dX11_take_34 rfl h11 h12 (Nat.le_of_ble_eq_true rfl) rfl ?_
    rintro r K1 H13 ⟨rfl, x14, rfl, h⟩ -
    show Fr mX11_take (d + 1) 0 0 none 37 [(2, (2, (H3 ((H3 (v0 : Int).toNat 2) : Int).toNat (v1 : Int).toNat))), (0, (2, v0)), (1, (0, v1))] [(0, x14)] _ H13 _
    refine r_if_eq (tgt := 52) dX11_take_37 (by decide) (fun c15 => ?_) (fun c15 => ?_)
    · replace h := h.1 c15
      refine r_aload_n 1 dX11_take_52 rfl rfl ?_
      refine r_iconst dX11_take_53 (by decide) (by decide) ?_
      refine r_invV (M := mX11_take) (As := [(0, 5)]) (st := []) (X := v0) (mc := 0) (ms := 0) (fc := 0) (fs := 0) h ok_X11_refuse cls11 im_X11_refuse se_X11_refuse ml_RX11_88 dX11_take_54 rfl h1 h2 (Nat.le_of_ble_eq_true rfl) rfl ?_
      rintro r K1 H16 ⟨rfl, x17, rfl, h⟩ -
      show Fr mX11_take (d + 1) 0 0 none 57 [(2, (2, (H3 ((H3 (v0 : Int).toNat 2) : Int).toNat (v1 : Int).toNat))), (0, (2, v0)), (1, (0, v1))] [(0, x17)] _ H16 _
      exact r_iret dX11_take_57 rfl ⟨rfl, _, rfl, h⟩
    · replace h := h.2 c15
      refine r_aload_n 1 dX11_take_40 rfl rfl ?_
      refine r_aload_n 1 dX11_take_41 rfl rfl ?_
      refine r_aload_n 0 dX11_take_42 rfl rfl ?_
      refine r_invV (M := mX11_take) (As := [(2, (H3 ((H3 (v0 : Int).toNat 2) : Int).toNat (v1 : Int).toNat))]) (st := [(2, v0)]) (X := v0) (mc := 0) (ms := 0) (fc := 0) (fs := 0) h ok_X11_carryOut cls11 im_X11_carryOut se_X11_carryOut ml_RX11_184 dX11_take_43 rfl h1 h2 (Nat.le_of_ble_eq_true rfl) rfl ?_
      rintro r K1 H18 ⟨rfl, x19, rfl, h⟩ -
      show Fr mX11_take (d + 1) 0 0 none 46 [(2, (2, (H3 ((H3 (v0 : Int).toNat 2) : Int).toNat (v1 : Int).toNat))), (0, (2, v0)), (1, (0, v1))] [(0, x19), (2, v0)] _ H18 _
      refine r_invV (M := mX11_take) (As := [(0, x19)]) (st := []) (X := v0) (mc := 0) (ms := 0) (fc := 0) (fs := 0) h ok_X11_give cls11 im_X11_give se_X11_give ml_RX11_99 dX11_take_46 rfl h1 h2 (Nat.le_of_ble_eq_true rfl) rfl ?_
      rintro r K1 H20 ⟨rfl, x21, rfl, h⟩ -
      show Fr mX11_take (d + 1) 0 0 none 49 [(2, (2, (H3 ((H3 (v0 : Int).toNat 2) : Int).toNat (v1 : Int).toNat))), (0, (2, v0)), (1, (0, v1))] [(0, x21)] _ H20 _
      refine r_goto (tgt := 57) dX11_take_49 (by decide) ?_
      exact r_iret dX11_take_57 rfl ⟨rfl, _, rfl, h⟩
  · replace h := h.2 c5
    refine r_aload_n 0 dX11_take_8 rfl rfl ?_
    refine r_iconst dX11_take_9 (by decide) (by decide) ?_
    refine r_invV (M := mX11_take) (As := [(0, 1)]) (st := []) (X := v0) (mc := 0) (ms := 0) (fc := 0) (fs := 0) h ok_X11_refuse cls11 im_X11_refuse se_X11_refuse ml_RX11_88 dX11_take_10 rfl h1 h2 (Nat.le_of_ble_eq_true rfl) rfl ?_
    rintro r K1 H22 ⟨rfl, x23, rfl, h⟩ -
    show Fr mX11_take (d + 1) 0 0 none 13 [(0, (2, v0)), (1, (0, v1))] [(0, x23)] _ H22 _
    exact r_iret dX11_take_13 rfl ⟨rfl, _, rfl, h⟩
set_option maxHeartbeats 4000000 in
set_option maxRecDepth 20000 in
theorem eX11_take {d : Nat} {K : Shp} {H : Mem} {q : Int → Mem → Prop} {v0 v1 : Int} (h : inI v1 → Rng K H → FX11_take_0 d K H q v0 v1) : Ci mX11_take (d + 1) [(2, v0), (0, v1)] K H q := Call.of rfl (Nat.le_of_ble_eq_true rfl) (fun o r => h (o (0, v1) (by simp)) r)
def FX11_span_0 (d : Nat) (K : Shp) (H : Mem) (q : Int → Mem → Prop) (v0 : Int) (v1 : Int) (v2 : Int) : Prop := Fr mX11_span (d + 1) 0 0 none 0 [(0, (2, v0)), (1, (0, v1)), (2, (0, v2))] [] K H (qi K q)
set_option maxHeartbeats 4000000 in
set_option maxRecDepth 20000 in
theorem bX11_span_0 {d : Nat} {K : Shp} {H : Mem} {q : Int → Mem → Prop} {v0 v1 v2 : Int} (h : ((0 : Int) ≤ v0) ∧ (K[(v0 : Int).toNat]? = some (11, 8)) ∧ Ci mX11_isSection d [(2, v0), (0, v2)] K H (fun x4 H3 => ((¬ (x4 : Int) = 0 → Ci mX11_isFromTo d [(0, v1), (0, 2), (0, 50)] K H3 (fun x7 H6 => ((¬ (x7 : Int) = 0 → ((0 : Int) ≤ (H6 (v0 : Int).toNat 5)) ∧ (K[((H6 (v0 : Int).toNat 5) : Int).toNat]? = some (0, 12)) ∧ ((((H6 ((H6 (v0 : Int).toNat 5) : Int).toNat 0) : Int) < 5 → Ci mX0_addSpan d [(2, (H6 (v0 : Int).toNat 5)), (0, v1), (0, v2)] K H6 (fun x13 H12 => Ci mX11_give d [(2, v0), (0, x13)] K H12 (fun x15 H14 => q x15 H14))) ∧ (¬ ((H6 ((H6 (v0 : Int).toNat 5) : Int).toNat 0) : Int) < 5 → Ci mX11_refuse d [(2, v0), (0, 3)] K H6 (fun x17 H16 => q x17 H16)))) ∧ ((x7 : Int) = 0 → Ci mX11_refuse d [(2, v0), (0, 2)] K H6 (fun x19 H18 => q x19 H18))))) ∧ ((x4 : Int) = 0 → Ci mX11_refuse d [(2, v0), (0, 1)] K H3 (fun x21 H20 => q x21 H20))))) : FX11_span_0 d K H q (v0) (v1) (v2) := by
  unfold FX11_span_0
  refine r_aload_n 0 dX11_span_0 rfl rfl ?_
  refine r_iload_n 2 dX11_span_1 rfl rfl ?_
  obtain ⟨h1, h⟩ := h
  obtain ⟨h2, h⟩ := h
  refine r_invV (M := mX11_span) (As := [(0, v2)]) (st := []) (X := v0) (mc := 0) (ms := 0) (fc := 0) (fs := 0) h ok_X11_isSection cls11 im_X11_isSection se_X11_isSection ml_RX11_69 dX11_span_2 rfl h1 h2 (Nat.le_of_ble_eq_true rfl) rfl ?_
  rintro r K1 H3 ⟨rfl, x4, rfl, h⟩ -
  show Fr mX11_span (d + 1) 0 0 none 5 [(0, (2, v0)), (1, (0, v1)), (2, (0, v2))] [(0, x4)] _ H3 _
  refine r_if_ne (tgt := 14) dX11_span_5 (by decide) (fun c5 => ?_) (fun c5 => ?_)
  · replace h := h.1 c5
    refine r_iload_n 1 dX11_span_14 rfl rfl ?_
    refine r_iconst dX11_span_15 (by decide) (by decide) ?_
    refine r_bipush dX11_span_16 (by decide) (by decide) ?_
    refine r_invS (M := mX11_span) (As := [(0, v1), (0, 2), (0, 50)]) (st := []) (mc := 0) (ms := 0) (fc := 0) (fs := 0) h ok_X11_isFromTo sm_X11_isFromTo ml_RX11_76 dX11_span_18 rfl (Nat.le_of_ble_eq_true rfl) rfl ?_
    rintro r K1 H6 ⟨rfl, x7, rfl, h⟩ -
    show Fr mX11_span (d + 1) 0 0 none 21 [(0, (2, v0)), (1, (0, v1)), (2, (0, v2))] [(0, x7)] _ H6 _
    refine r_if_ne (tgt := 30) dX11_span_21 (by decide) (fun c8 => ?_) (fun c8 => ?_)
    · replace h := h.1 c8
      refine r_aload_n 0 dX11_span_30 rfl rfl ?_
      refine r_getf cls11 5 dX11_span_31 (by decide) fl_RX11_43 rfl h1 h2 ?_
      obtain ⟨h9, h⟩ := h
      obtain ⟨h10, h⟩ := h
      refine r_getf cls0 0 dX11_span_34 (by decide) fl_RX11_188 rfl h9 h10 ?_
      refine r_iconst dX11_span_37 (by decide) (by decide) ?_
      refine r_icmp_lt (tgt := 47) dX11_span_38 (by decide) (fun c11 => ?_) (fun c11 => ?_)
      · replace h := h.1 c11
        refine r_aload_n 0 dX11_span_47 rfl rfl ?_
        refine r_aload_n 0 dX11_span_48 rfl rfl ?_
        refine r_getf cls11 5 dX11_span_49 (by decide) fl_RX11_43 rfl h1 h2 ?_
        refine r_iload_n 1 dX11_span_52 rfl rfl ?_
        refine r_iload_n 2 dX11_span_53 rfl rfl ?_
        refine r_invV (M := mX11_span) (As := [(0, v1), (0, v2)]) (st := [(2, v0)]) (X := (H6 (v0 : Int).toNat 5)) (mc := 0) (ms := 0) (fc := 0) (fs := 0) h ok_X0_addSpan cls0 im_X0_addSpan se_X0_addSpan ml_RX11_189 dX11_span_54 rfl h9 h10 (Nat.le_of_ble_eq_true rfl) rfl ?_
        rintro r K1 H12 ⟨rfl, x13, rfl, h⟩ -
        show Fr mX11_span (d + 1) 0 0 none 57 [(0, (2, v0)), (1, (0, v1)), (2, (0, v2))] [(0, x13), (2, v0)] _ H12 _
        refine r_invV (M := mX11_span) (As := [(0, x13)]) (st := []) (X := v0) (mc := 0) (ms := 0) (fc := 0) (fs := 0) h ok_X11_give cls11 im_X11_give se_X11_give ml_RX11_99 dX11_span_57 rfl h1 h2 (Nat.le_of_ble_eq_true rfl) rfl ?_
        rintro r K1 H14 ⟨rfl, x15, rfl, h⟩ -
        show Fr mX11_span (d + 1) 0 0 none 60 [(0, (2, v0)), (1, (0, v1)), (2, (0, v2))] [(0, x15)] _ H14 _
        exact r_iret dX11_span_60 rfl ⟨rfl, _, rfl, h⟩
      · replace h := h.2 c11
        refine r_aload_n 0 dX11_span_41 rfl rfl ?_
        refine r_iconst dX11_span_42 (by decide) (by decide) ?_
        refine r_invV (M := mX11_span) (As := [(0, 3)]) (st := []) (X := v0) (mc := 0) (ms := 0) (fc := 0) (fs := 0) h ok_X11_refuse cls11 im_X11_refuse se_X11_refuse ml_RX11_88 dX11_span_43 rfl h1 h2 (Nat.le_of_ble_eq_true rfl) rfl ?_
        rintro r K1 H16 ⟨rfl, x17, rfl, h⟩ -
        show Fr mX11_span (d + 1) 0 0 none 46 [(0, (2, v0)), (1, (0, v1)), (2, (0, v2))] [(0, x17)] _ H16 _
        exact r_iret dX11_span_46 rfl ⟨rfl, _, rfl, h⟩
    · replace h := h.2 c8
      refine r_aload_n 0 dX11_span_24 rfl rfl ?_
      refine r_iconst dX11_span_25 (by decide) (by decide) ?_
      refine r_invV (M := mX11_span) (As := [(0, 2)]) (st := []) (X := v0) (mc := 0) (ms := 0) (fc := 0) (fs := 0) h ok_X11_refuse cls11 im_X11_refuse se_X11_refuse ml_RX11_88 dX11_span_26 rfl h1 h2 (Nat.le_of_ble_eq_true rfl) rfl ?_
      rintro r K1 H18 ⟨rfl, x19, rfl, h⟩ -
      show Fr mX11_span (d + 1) 0 0 none 29 [(0, (2, v0)), (1, (0, v1)), (2, (0, v2))] [(0, x19)] _ H18 _
      exact r_iret dX11_span_29 rfl ⟨rfl, _, rfl, h⟩
  · replace h := h.2 c5
    refine r_aload_n 0 dX11_span_8 rfl rfl ?_
    refine r_iconst dX11_span_9 (by decide) (by decide) ?_
    refine r_invV (M := mX11_span) (As := [(0, 1)]) (st := []) (X := v0) (mc := 0) (ms := 0) (fc := 0) (fs := 0) h ok_X11_refuse cls11 im_X11_refuse se_X11_refuse ml_RX11_88 dX11_span_10 rfl h1 h2 (Nat.le_of_ble_eq_true rfl) rfl ?_
    rintro r K1 H20 ⟨rfl, x21, rfl, h⟩ -
    show Fr mX11_span (d + 1) 0 0 none 13 [(0, (2, v0)), (1, (0, v1)), (2, (0, v2))] [(0, x21)] _ H20 _
    exact r_iret dX11_span_13 rfl ⟨rfl, _, rfl, h⟩
set_option maxHeartbeats 4000000 in
set_option maxRecDepth 20000 in
theorem eX11_span {d : Nat} {K : Shp} {H : Mem} {q : Int → Mem → Prop} {v0 v1 v2 : Int} (h : inI v1 → inI v2 → Rng K H → FX11_span_0 d K H q v0 v1 v2) : Ci mX11_span (d + 1) [(2, v0), (0, v1), (0, v2)] K H q := Call.of rfl (Nat.le_of_ble_eq_true rfl) (fun o r => h (o (0, v1) (by simp)) (o (0, v2) (by simp)) r)
def FX11_away_0 (d : Nat) (K : Shp) (H : Mem) (q : Int → Mem → Prop) (v0 : Int) : Prop := Fr mX11_away (d + 1) 0 0 none 0 [(0, (2, v0))] [] K H (qi K q)
set_option maxHeartbeats 4000000 in
set_option maxRecDepth 20000 in
theorem bX11_away_0 {d : Nat} {K : Shp} {H : Mem} {q : Int → Mem → Prop} {v0 : Int} (h : ((0 : Int) ≤ v0) ∧ (K[(v0 : Int).toNat]? = some (11, 8)) ∧ ((0 : Int) ≤ (H (v0 : Int).toNat 5)) ∧ (K[((H (v0 : Int).toNat 5) : Int).toNat]? = some (0, 12)) ∧ ∀ H5 : Mem, H5 = upA H ((H (v0 : Int).toNat 5) : Int).toNat (up1 (H ((H (v0 : Int).toNat 5) : Int).toNat) 0 0) → Ci mX11_allow d [(2, v0)] K H5 (fun x7 H6 => ((x7 : Int) = 0 ∨ (x7 : Int) = 1) ∧ q x7 H6)) : FX11_away_0 d K H q (v0) := by
  unfold FX11_away_0
  refine r_aload_n 0 dX11_away_0 rfl rfl ?_
  obtain ⟨h1, h⟩ := h
  obtain ⟨h2, h⟩ := h
  refine r_getf cls11 5 dX11_away_1 (by decide) fl_RX11_43 rfl h1 h2 ?_
  refine r_iconst dX11_away_4 (by decide) (by decide) ?_
  obtain ⟨h3, h⟩ := h
  obtain ⟨h4, h⟩ := h
  refine r_putf cls0 0 dX11_away_5 (by decide) rfl fl_RX11_188 rfl h3 h4 (fun o => o) ?_
  replace h := h _ rfl
  generalize upA H ((H (v0 : Int).toNat 5) : Int).toNat (up1 (H ((H (v0 : Int).toNat 5) : Int).toNat) 0 0) = H5 at h ⊢
  refine r_aload_n 0 dX11_away_8 rfl rfl ?_
  refine r_invV (M := mX11_away) (As := []) (st := []) (X := v0) (mc := 0) (ms := 0) (fc := 0) (fs := 0) h ok_X11_allow cls11 im_X11_allow se_X11_allow ml_RX11_84 dX11_away_9 rfl h1 h2 (Nat.le_of_ble_eq_true rfl) rfl ?_
  rintro r K1 H6 ⟨rfl, x7, rfl, h⟩ -
  show Fr mX11_away (d + 1) 0 0 none 12 [(0, (2, v0))] [(0, x7)] _ H6 _
  obtain ⟨h8, h⟩ := h
  exact r_zret dX11_away_12 rfl h8 ⟨rfl, _, rfl, h⟩
set_option maxHeartbeats 4000000 in
set_option maxRecDepth 20000 in
theorem eX11_away {d : Nat} {K : Shp} {H : Mem} {q : Int → Mem → Prop} {v0 : Int} (h : Rng K H → FX11_away_0 d K H q v0) : Ci mX11_away (d + 1) [(2, v0)] K H q := Call.of rfl (Nat.le_of_ble_eq_true rfl) (fun o r => h  r)
def FX11_hold_0 (d : Nat) (K : Shp) (H : Mem) (q : Int → Mem → Prop) (v0 : Int) (v1 : Int) (v2 : Int) : Prop := Fr mX11_hold (d + 1) 0 0 none 0 [(0, (2, v0)), (1, (0, v1)), (2, (0, v2))] [] K H (qi K q)
set_option maxHeartbeats 4000000 in
set_option maxRecDepth 20000 in
theorem bX11_hold_0 {d : Nat} {K : Shp} {H : Mem} {q : Int → Mem → Prop} {v0 v1 v2 : Int} (h : Ci mX11_isFromTo d [(0, v1), (0, 0), (0, 1)] K H (fun x2 H1 => ((¬ (x2 : Int) = 0 → ((0 : Int) ≤ v0) ∧ (K[(v0 : Int).toNat]? = some (11, 8)) ∧ ((0 : Int) ≤ (H1 (v0 : Int).toNat 5)) ∧ (K[((H1 (v0 : Int).toNat 5) : Int).toNat]? = some (0, 12)) ∧ ((0 : Int) ≤ (H1 ((H1 (v0 : Int).toNat 5) : Int).toNat 2)) ∧ ∃ n9 : Nat, (K[((H1 ((H1 (v0 : Int).toNat 5) : Int).toNat 2) : Int).toNat]? = some (22, n9)) ∧ ((0 : Int) ≤ v1) ∧ ((v1 : Int) < n9) ∧ ((¬ ((H1 ((H1 ((H1 (v0 : Int).toNat 5) : Int).toNat 2) : Int).toNat (v1 : Int).toNat) : Int) = v2 → ((v2 : Int) = 0 ∨ (v2 : Int) = 1) ∧ ∀ H15 : Mem, H15 = upA H1 ((H1 ((H1 (v0 : Int).toNat 5) : Int).toNat 2) : Int).toNat (up1 (H1 ((H1 ((H1 (v0 : Int).toNat 5) : Int).toNat 2) : Int).toNat) (v1 : Int).toNat v2) → Ci mX11_allow d [(2, v0)] K H15 (fun x17 H16 => ((x17 : Int) = 0 ∨ (x17 : Int) = 1) ∧ q x17 H16)) ∧ (((H1 ((H1 ((H1 (v0 : Int).toNat 5) : Int).toNat 2) : Int).toNat (v1 : Int).toNat) : Int) = v2 → Ci mX11_deny d [(2, v0), (0, 8)] K H1 (fun x20 H19 => ((x20 : Int) = 0 ∨ (x20 : Int) = 1) ∧ q x20 H19)))) ∧ ((x2 : Int) = 0 → ((0 : Int) ≤ v0) ∧ (K[(v0 : Int).toNat]? = some (11, 8)) ∧ Ci mX11_deny d [(2, v0), (0, 2)] K H1 (fun x25 H24 => ((x25 : Int) = 0 ∨ (x25 : Int) = 1) ∧ q x25 H24))))) : FX11_hold_0 d K H q (v0) (v1) (v2) := by
  unfold FX11_hold_0
  refine r_iload_n 1 dX11_hold_0 rfl rfl ?_
  refine r_iconst dX11_hold_1 (by decide) (by decide) ?_
  refine r_iconst dX11_hold_2 (by decide) (by decide) ?_
  refine r_invS (M := mX11_hold) (As := [(0, v1), (0, 0), (0, 1)]) (st := []) (mc := 0) (ms := 0) (fc := 0) (fs := 0) h ok_X11_isFromTo sm_X11_isFromTo ml_RX11_76 dX11_hold_3 rfl (Nat.le_of_ble_eq_true rfl) rfl ?_
  rintro r K1 H1 ⟨rfl, x2, rfl, h⟩ -
  show Fr mX11_hold (d + 1) 0 0 none 6 [(0, (2, v0)), (1, (0, v1)), (2, (0, v2))] [(0, x2)] _ H1 _
  refine r_if_ne (tgt := 15) dX11_hold_6 (by decide) (fun c3 => ?_) (fun c3 => ?_)
  · replace h := h.1 c3
    refine r_aload_n 0 dX11_hold_15 rfl rfl ?_
    obtain ⟨h4, h⟩ := h
    obtain ⟨h5, h⟩ := h
    refine r_getf cls11 5 dX11_hold_16 (by decide) fl_RX11_43 rfl h4 h5 ?_
    obtain ⟨h6, h⟩ := h
    obtain ⟨h7, h⟩ := h
    refine r_getf cls0 2 dX11_hold_19 (by decide) fl_RX11_192 rfl h6 h7 ?_
    refine r_iload_n 1 dX11_hold_22 rfl rfl ?_
    obtain ⟨h8, h⟩ := h
    obtain ⟨n9, h⟩ := h
    obtain ⟨h10, h⟩ := h
    obtain ⟨h11, h⟩ := h
    obtain ⟨h12, h⟩ := h
    refine r_zald n9 dX11_hold_23 h8 h10 h11 h12 ?_
    refine r_iload_n 2 dX11_hold_24 rfl rfl ?_
    refine r_icmp_ne (tgt := 35) dX11_hold_25 (by decide) (fun c13 => ?_) (fun c13 => ?_)
    · replace h := h.1 c13
      refine r_aload_n 0 dX11_hold_35 rfl rfl ?_
      refine r_getf cls11 5 dX11_hold_36 (by decide) fl_RX11_43 rfl h4 h5 ?_
      refine r_getf cls0 2 dX11_hold_39 (by decide) fl_RX11_192 rfl h6 h7 ?_
      refine r_iload_n 1 dX11_hold_42 rfl rfl ?_
      refine r_iload_n 2 dX11_hold_43 rfl rfl ?_
      obtain ⟨h14, h⟩ := h
      refine r_zast n9 dX11_hold_44 h8 h10 h11 h12 h14 ?_
      replace h := h _ rfl
      generalize upA H1 ((H1 ((H1 (v0 : Int).toNat 5) : Int).toNat 2) : Int).toNat (up1 (H1 ((H1 ((H1 (v0 : Int).toNat 5) : Int).toNat 2) : Int).toNat) (v1 : Int).toNat v2) = H15 at h ⊢
      refine r_aload_n 0 dX11_hold_45 rfl rfl ?_
      refine r_invV (M := mX11_hold) (As := []) (st := []) (X := v0) (mc := 0) (ms := 0) (fc := 0) (fs := 0) h ok_X11_allow cls11 im_X11_allow se_X11_allow ml_RX11_84 dX11_hold_46 rfl h4 h5 (Nat.le_of_ble_eq_true rfl) rfl ?_
      rintro r K1 H16 ⟨rfl, x17, rfl, h⟩ -
      show Fr mX11_hold (d + 1) 0 0 none 49 [(0, (2, v0)), (1, (0, v1)), (2, (0, v2))] [(0, x17)] _ H16 _
      obtain ⟨h18, h⟩ := h
      exact r_zret dX11_hold_49 rfl h18 ⟨rfl, _, rfl, h⟩
    · replace h := h.2 c13
      refine r_aload_n 0 dX11_hold_28 rfl rfl ?_
      refine r_bipush dX11_hold_29 (by decide) (by decide) ?_
      refine r_invV (M := mX11_hold) (As := [(0, 8)]) (st := []) (X := v0) (mc := 0) (ms := 0) (fc := 0) (fs := 0) h ok_X11_deny cls11 im_X11_deny se_X11_deny ml_RX11_73 dX11_hold_31 rfl h4 h5 (Nat.le_of_ble_eq_true rfl) rfl ?_
      rintro r K1 H19 ⟨rfl, x20, rfl, h⟩ -
      show Fr mX11_hold (d + 1) 0 0 none 34 [(0, (2, v0)), (1, (0, v1)), (2, (0, v2))] [(0, x20)] _ H19 _
      obtain ⟨h21, h⟩ := h
      exact r_zret dX11_hold_34 rfl h21 ⟨rfl, _, rfl, h⟩
  · replace h := h.2 c3
    refine r_aload_n 0 dX11_hold_9 rfl rfl ?_
    refine r_iconst dX11_hold_10 (by decide) (by decide) ?_
    obtain ⟨h22, h⟩ := h
    obtain ⟨h23, h⟩ := h
    refine r_invV (M := mX11_hold) (As := [(0, 2)]) (st := []) (X := v0) (mc := 0) (ms := 0) (fc := 0) (fs := 0) h ok_X11_deny cls11 im_X11_deny se_X11_deny ml_RX11_73 dX11_hold_11 rfl h22 h23 (Nat.le_of_ble_eq_true rfl) rfl ?_
    rintro r K1 H24 ⟨rfl, x25, rfl, h⟩ -
    show Fr mX11_hold (d + 1) 0 0 none 14 [(0, (2, v0)), (1, (0, v1)), (2, (0, v2))] [(0, x25)] _ H24 _
    obtain ⟨h26, h⟩ := h
    exact r_zret dX11_hold_14 rfl h26 ⟨rfl, _, rfl, h⟩
set_option maxHeartbeats 4000000 in
set_option maxRecDepth 20000 in
theorem eX11_hold {d : Nat} {K : Shp} {H : Mem} {q : Int → Mem → Prop} {v0 v1 v2 : Int} (h : inI v1 → inI v2 → Rng K H → FX11_hold_0 d K H q v0 v1 v2) : Ci mX11_hold (d + 1) [(2, v0), (0, v1), (0, v2)] K H q := Call.of rfl (Nat.le_of_ble_eq_true rfl) (fun o r => h (o (0, v1) (by simp)) (o (0, v2) (by simp)) r)
def FX11_load_0 (d : Nat) (K : Shp) (H : Mem) (q : Int → Mem → Prop) (v0 : Int) (v1 : Int) (v2 : Int) (v3 : Int) : Prop := Fr mX11_load (d + 1) 0 0 none 0 [(0, (2, v0)), (1, (0, v1)), (2, (0, v2)), (3, (0, v3))] [] K H (qi K q)
set_option maxHeartbeats 4000000 in
set_option maxRecDepth 20000 in
theorem bX11_load_0 {d : Nat} {K : Shp} {H : Mem} {q : Int → Mem → Prop} {v0 v1 v2 v3 : Int} (h : ((0 : Int) ≤ v0) ∧ (K[(v0 : Int).toNat]? = some (11, 8)) ∧ Ci mX11_isSpan d [(2, v0), (0, v1)] K H (fun x4 H3 => ((¬ (x4 : Int) = 0 → ((0 : Int) ≤ (H3 (v0 : Int).toNat 5)) ∧ (K[((H3 (v0 : Int).toNat 5) : Int).toNat]? = some (0, 12)) ∧ ((0 : Int) ≤ (H3 ((H3 (v0 : Int).toNat 5) : Int).toNat 1)) ∧ ∃ n9 : Nat, (K[((H3 ((H3 (v0 : Int).toNat 5) : Int).toNat 1) : Int).toNat]? = some (24, n9)) ∧ ((0 : Int) ≤ v1) ∧ ((v1 : Int) < n9) ∧ ((0 : Int) ≤ (H3 ((H3 ((H3 (v0 : Int).toNat 5) : Int).toNat 1) : Int).toNat (v1 : Int).toNat)) ∧ (K[((H3 ((H3 ((H3 (v0 : Int).toNat 5) : Int).toNat 1) : Int).toNat (v1 : Int).toNat) : Int).toNat]? = some (7, 5)) ∧ (inI ((H3 ((H3 ((H3 ((H3 (v0 : Int).toNat 5) : Int).toNat 1) : Int).toNat (v1 : Int).toNat) : Int).toNat 0) - 1)) ∧ Ci mX11_isFromTo d [(0, v2), (0, 1), (0, ((H3 ((H3 ((H3 ((H3 (v0 : Int).toNat 5) : Int).toNat 1) : Int).toNat (v1 : Int).toNat) : Int).toNat 0) - 1))] K H3 (fun x17 H16 => (((x17 : Int) = 0 → Ci mX11_refuse d [(2, v0), (0, 2)] K H16 (fun x20 H19 => q x20 H19)) ∧ (¬ (x17 : Int) = 0 → Ci mX11_isFromTo d [(0, v3), (0, 1), (0, 1000)] K H16 (fun x22 H21 => ((¬ (x22 : Int) = 0 → ((((H21 ((H3 ((H3 ((H3 (v0 : Int).toNat 5) : Int).toNat 1) : Int).toNat (v1 : Int).toNat) : Int).toNat 2) : Int) < 2 → Ci mX7_hasLoadAt d [(2, (H3 ((H3 ((H3 (v0 : Int).toNat 5) : Int).toNat 1) : Int).toNat (v1 : Int).toNat)), (0, v2)] K H21 (fun x26 H25 => (((x26 : Int) = 0 → Ci mX7_addLoad d [(2, (H3 ((H3 ((H3 (v0 : Int).toNat 5) : Int).toNat 1) : Int).toNat (v1 : Int).toNat)), (0, v2), (0, v3)] K H25 (fun x29 H28 => Ci mX11_give d [(2, v0), (0, x29)] K H28 (fun x31 H30 => q x31 H30))) ∧ (¬ (x26 : Int) = 0 → Ci mX11_refuse d [(2, v0), (0, 7)] K H25 (fun x33 H32 => q x33 H32))))) ∧ (¬ ((H21 ((H3 ((H3 ((H3 (v0 : Int).toNat 5) : Int).toNat 1) : Int).toNat (v1 : Int).toNat) : Int).toNat 2) : Int) < 2 → Ci mX11_refuse d [(2, v0), (0, 3)] K H21 (fun x35 H34 => q x35 H34)))) ∧ ((x22 : Int) = 0 → Ci mX11_refuse d [(2, v0), (0, 2)] K H21 (fun x37 H36 => q x37 H36)))))))) ∧ ((x4 : Int) = 0 → Ci mX11_refuse d [(2, v0), (0, 1)] K H3 (fun x39 H38 => q x39 H38))))) : FX11_load_0 d K H q (v0) (v1) (v2) (v3) := by
  unfold FX11_load_0
  refine r_aload_n 0 dX11_load_0 rfl rfl ?_
  refine r_iload_n 1 dX11_load_1 rfl rfl ?_
  obtain ⟨h1, h⟩ := h
  obtain ⟨h2, h⟩ := h
  refine r_invV (M := mX11_load) (As := [(0, v1)]) (st := []) (X := v0) (mc := 0) (ms := 0) (fc := 0) (fs := 0) h ok_X11_isSpan cls11 im_X11_isSpan se_X11_isSpan ml_RX11_196 dX11_load_2 rfl h1 h2 (Nat.le_of_ble_eq_true rfl) rfl ?_
  rintro r K1 H3 ⟨rfl, x4, rfl, h⟩ -
  show Fr mX11_load (d + 1) 0 0 none 5 [(0, (2, v0)), (1, (0, v1)), (2, (0, v2)), (3, (0, v3))] [(0, x4)] _ H3 _
  refine r_if_ne (tgt := 14) dX11_load_5 (by decide) (fun c5 => ?_) (fun c5 => ?_)
  · replace h := h.1 c5
    refine r_aload_n 0 dX11_load_14 rfl rfl ?_
    refine r_getf cls11 5 dX11_load_15 (by decide) fl_RX11_43 rfl h1 h2 ?_
    obtain ⟨h6, h⟩ := h
    obtain ⟨h7, h⟩ := h
    refine r_getf cls0 1 dX11_load_18 (by decide) fl_RX11_199 rfl h6 h7 ?_
    refine r_iload_n 1 dX11_load_21 rfl rfl ?_
    obtain ⟨h8, h⟩ := h
    obtain ⟨n9, h⟩ := h
    obtain ⟨h10, h⟩ := h
    obtain ⟨h11, h⟩ := h
    obtain ⟨h12, h⟩ := h
    refine r_aald 24 n9 (by decide) dX11_load_22 h8 h10 h11 h12 ?_
    refine r_astore dX11_load_23 (by decide) rfl ?_
    refine r_iload_n 3 dX11_load_25 rfl rfl ?_
    refine r_iconst dX11_load_26 (by decide) (by decide) ?_
    refine r_aload 0 dX11_load_27 rfl ?_
    obtain ⟨h13, h⟩ := h
    obtain ⟨h14, h⟩ := h
    refine r_getf cls7 0 dX11_load_29 (by decide) fl_RX11_203 rfl h13 h14 ?_
    refine r_iconst dX11_load_32 (by decide) (by decide) ?_
    obtain ⟨h15, h⟩ := h
    refine r_isub dX11_load_33 h15 ?_
    refine r_invS (M := mX11_load) (As := [(0, v2), (0, 1), (0, ((H3 ((H3 ((H3 ((H3 (v0 : Int).toNat 5) : Int).toNat 1) : Int).toNat (v1 : Int).toNat) : Int).toNat 0) - 1))]) (st := []) (mc := 0) (ms := 0) (fc := 0) (fs := 0) h ok_X11_isFromTo sm_X11_isFromTo ml_RX11_76 dX11_load_34 rfl (Nat.le_of_ble_eq_true rfl) rfl ?_
    rintro r K1 H16 ⟨rfl, x17, rfl, h⟩ -
    show Fr mX11_load (d + 1) 0 0 none 37 [(4, (2, (H3 ((H3 ((H3 (v0 : Int).toNat 5) : Int).toNat 1) : Int).toNat (v1 : Int).toNat))), (0, (2, v0)), (1, (0, v1)), (2, (0, v2)), (3, (0, v3))] [(0, x17)] _ H16 _
    refine r_if_eq (tgt := 51) dX11_load_37 (by decide) (fun c18 => ?_) (fun c18 => ?_)
    · replace h := h.1 c18
      refine r_aload_n 1 dX11_load_51 rfl rfl ?_
      refine r_iconst dX11_load_52 (by decide) (by decide) ?_
      refine r_invV (M := mX11_load) (As := [(0, 2)]) (st := []) (X := v0) (mc := 0) (ms := 0) (fc := 0) (fs := 0) h ok_X11_refuse cls11 im_X11_refuse se_X11_refuse ml_RX11_88 dX11_load_53 rfl h1 h2 (Nat.le_of_ble_eq_true rfl) rfl ?_
      rintro r K1 H19 ⟨rfl, x20, rfl, h⟩ -
      show Fr mX11_load (d + 1) 0 0 none 56 [(4, (2, (H3 ((H3 ((H3 (v0 : Int).toNat 5) : Int).toNat 1) : Int).toNat (v1 : Int).toNat))), (0, (2, v0)), (1, (0, v1)), (2, (0, v2)), (3, (0, v3))] [(0, x20)] _ H19 _
      exact r_iret dX11_load_56 rfl ⟨rfl, _, rfl, h⟩
    · replace h := h.2 c18
      refine r_iload_n 4 dX11_load_40 rfl rfl ?_
      refine r_iconst dX11_load_41 (by decide) (by decide) ?_
      refine r_sipush dX11_load_42 (by decide) (by decide) ?_
      refine r_invS (M := mX11_load) (As := [(0, v3), (0, 1), (0, 1000)]) (st := []) (mc := 0) (ms := 0) (fc := 0) (fs := 0) h ok_X11_isFromTo sm_X11_isFromTo ml_RX11_76 dX11_load_45 rfl (Nat.le_of_ble_eq_true rfl) rfl ?_
      rintro r K1 H21 ⟨rfl, x22, rfl, h⟩ -
      show Fr mX11_load (d + 1) 0 0 none 48 [(4, (2, (H3 ((H3 ((H3 (v0 : Int).toNat 5) : Int).toNat 1) : Int).toNat (v1 : Int).toNat))), (0, (2, v0)), (1, (0, v1)), (2, (0, v2)), (3, (0, v3))] [(0, x22)] _ H21 _
      refine r_if_ne (tgt := 57) dX11_load_48 (by decide) (fun c23 => ?_) (fun c23 => ?_)
      · replace h := h.1 c23
        refine r_aload 0 dX11_load_57 rfl ?_
        refine r_getf cls7 2 dX11_load_59 (by decide) fl_RX11_206 rfl h13 h14 ?_
        refine r_iconst dX11_load_62 (by decide) (by decide) ?_
        refine r_icmp_lt (tgt := 72) dX11_load_63 (by decide) (fun c24 => ?_) (fun c24 => ?_)
        · replace h := h.1 c24
          refine r_aload 0 dX11_load_72 rfl ?_
          refine r_iload_n 3 dX11_load_74 rfl rfl ?_
          refine r_invV (M := mX11_load) (As := [(0, v2)]) (st := []) (X := (H3 ((H3 ((H3 (v0 : Int).toNat 5) : Int).toNat 1) : Int).toNat (v1 : Int).toNat)) (mc := 0) (ms := 0) (fc := 0) (fs := 0) h ok_X7_hasLoadAt cls7 im_X7_hasLoadAt se_X7_hasLoadAt ml_RX11_209 dX11_load_75 rfl h13 h14 (Nat.le_of_ble_eq_true rfl) rfl ?_
          rintro r K1 H25 ⟨rfl, x26, rfl, h⟩ -
          show Fr mX11_load (d + 1) 0 0 none 78 [(4, (2, (H3 ((H3 ((H3 (v0 : Int).toNat 5) : Int).toNat 1) : Int).toNat (v1 : Int).toNat))), (0, (2, v0)), (1, (0, v1)), (2, (0, v2)), (3, (0, v3))] [(0, x26)] _ H25 _
          refine r_if_eq (tgt := 88) dX11_load_78 (by decide) (fun c27 => ?_) (fun c27 => ?_)
          · replace h := h.1 c27
            refine r_aload_n 1 dX11_load_88 rfl rfl ?_
            refine r_aload 0 dX11_load_89 rfl ?_
            refine r_iload_n 3 dX11_load_91 rfl rfl ?_
            refine r_iload_n 4 dX11_load_92 rfl rfl ?_
            refine r_invV (M := mX11_load) (As := [(0, v2), (0, v3)]) (st := [(2, v0)]) (X := (H3 ((H3 ((H3 (v0 : Int).toNat 5) : Int).toNat 1) : Int).toNat (v1 : Int).toNat)) (mc := 0) (ms := 0) (fc := 0) (fs := 0) h ok_X7_addLoad cls7 im_X7_addLoad se_X7_addLoad ml_RX11_212 dX11_load_93 rfl h13 h14 (Nat.le_of_ble_eq_true rfl) rfl ?_
            rintro r K1 H28 ⟨rfl, x29, rfl, h⟩ -
            show Fr mX11_load (d + 1) 0 0 none 96 [(4, (2, (H3 ((H3 ((H3 (v0 : Int).toNat 5) : Int).toNat 1) : Int).toNat (v1 : Int).toNat))), (0, (2, v0)), (1, (0, v1)), (2, (0, v2)), (3, (0, v3))] [(0, x29), (2, v0)] _ H28 _
            refine r_invV (M := mX11_load) (As := [(0, x29)]) (st := []) (X := v0) (mc := 0) (ms := 0) (fc := 0) (fs := 0) h ok_X11_give cls11 im_X11_give se_X11_give ml_RX11_99 dX11_load_96 rfl h1 h2 (Nat.le_of_ble_eq_true rfl) rfl ?_
            rintro r K1 H30 ⟨rfl, x31, rfl, h⟩ -
            show Fr mX11_load (d + 1) 0 0 none 99 [(4, (2, (H3 ((H3 ((H3 (v0 : Int).toNat 5) : Int).toNat 1) : Int).toNat (v1 : Int).toNat))), (0, (2, v0)), (1, (0, v1)), (2, (0, v2)), (3, (0, v3))] [(0, x31)] _ H30 _
            exact r_iret dX11_load_99 rfl ⟨rfl, _, rfl, h⟩
          · replace h := h.2 c27
            refine r_aload_n 1 dX11_load_81 rfl rfl ?_
            refine r_bipush dX11_load_82 (by decide) (by decide) ?_
            refine r_invV (M := mX11_load) (As := [(0, 7)]) (st := []) (X := v0) (mc := 0) (ms := 0) (fc := 0) (fs := 0) h ok_X11_refuse cls11 im_X11_refuse se_X11_refuse ml_RX11_88 dX11_load_84 rfl h1 h2 (Nat.le_of_ble_eq_true rfl) rfl ?_
            rintro r K1 H32 ⟨rfl, x33, rfl, h⟩ -
            show Fr mX11_load (d + 1) 0 0 none 87 [(4, (2, (H3 ((H3 ((H3 (v0 : Int).toNat 5) : Int).toNat 1) : Int).toNat (v1 : Int).toNat))), (0, (2, v0)), (1, (0, v1)), (2, (0, v2)), (3, (0, v3))] [(0, x33)] _ H32 _
            exact r_iret dX11_load_87 rfl ⟨rfl, _, rfl, h⟩
        · replace h := h.2 c24
          refine r_aload_n 1 dX11_load_66 rfl rfl ?_
          refine r_iconst dX11_load_67 (by decide) (by decide) ?_
          refine r_invV (M := mX11_load) (As := [(0, 3)]) (st := []) (X := v0) (mc := 0) (ms := 0) (fc := 0) (fs := 0) h ok_X11_refuse cls11 im_X11_refuse se_X11_refuse ml_RX11_88 dX11_load_68 rfl h1 h2 (Nat.le_of_ble_eq_true rfl) rfl ?_
          rintro r K1 H34 ⟨rfl, x35, rfl, h⟩ -
          show Fr mX11_load (d + 1) 0 0 none 71 [(4, (2, (H3 ((H3 ((H3 (v0 : Int).toNat 5) : Int).toNat 1) : Int).toNat (v1 : Int).toNat))), (0, (2, v0)), (1, (0, v1)), (2, (0, v2)), (3, (0, v3))] [(0, x35)] _ H34 _
          exact r_iret dX11_load_71 rfl ⟨rfl, _, rfl, h⟩
      · replace h := h.2 c23
        refine r_aload_n 1 dX11_load_51 rfl rfl ?_
        refine r_iconst dX11_load_52 (by decide) (by decide) ?_
        refine r_invV (M := mX11_load) (As := [(0, 2)]) (st := []) (X := v0) (mc := 0) (ms := 0) (fc := 0) (fs := 0) h ok_X11_refuse cls11 im_X11_refuse se_X11_refuse ml_RX11_88 dX11_load_53 rfl h1 h2 (Nat.le_of_ble_eq_true rfl) rfl ?_
        rintro r K1 H36 ⟨rfl, x37, rfl, h⟩ -
        show Fr mX11_load (d + 1) 0 0 none 56 [(4, (2, (H3 ((H3 ((H3 (v0 : Int).toNat 5) : Int).toNat 1) : Int).toNat (v1 : Int).toNat))), (0, (2, v0)), (1, (0, v1)), (2, (0, v2)), (3, (0, v3))] [(0, x37)] _ H36 _
        exact r_iret dX11_load_56 rfl ⟨rfl, _, rfl, h⟩
  · replace h := h.2 c5
    refine r_aload_n 0 dX11_load_8 rfl rfl ?_
    refine r_iconst dX11_load_9 (by decide) (by decide) ?_
    refine r_invV (M := mX11_load) (As := [(0, 1)]) (st := []) (X := v0) (mc := 0) (ms := 0) (fc := 0) (fs := 0) h ok_X11_refuse cls11 im_X11_refuse se_X11_refuse ml_RX11_88 dX11_load_10 rfl h1 h2 (Nat.le_of_ble_eq_true rfl) rfl ?_
    rintro r K1 H38 ⟨rfl, x39, rfl, h⟩ -
    show Fr mX11_load (d + 1) 0 0 none 13 [(0, (2, v0)), (1, (0, v1)), (2, (0, v2)), (3, (0, v3))] [(0, x39)] _ H38 _
    exact r_iret dX11_load_13 rfl ⟨rfl, _, rfl, h⟩
set_option maxHeartbeats 4000000 in
set_option maxRecDepth 20000 in
theorem eX11_load {d : Nat} {K : Shp} {H : Mem} {q : Int → Mem → Prop} {v0 v1 v2 v3 : Int} (h : inI v1 → inI v2 → inI v3 → Rng K H → FX11_load_0 d K H q v0 v1 v2 v3) : Ci mX11_load (d + 1) [(2, v0), (0, v1), (0, v2), (0, v3)] K H q := Call.of rfl (Nat.le_of_ble_eq_true rfl) (fun o r => h (o (0, v1) (by simp)) (o (0, v2) (by simp)) (o (0, v3) (by simp)) r)
def FX11_times_0 (d : Nat) (K : Shp) (H : Mem) (q : Int → Mem → Prop) (v0 : Int) (v1 : Int) (v2 : Int) : Prop := Fr mX11_times (d + 1) 0 0 none 0 [(0, (2, v0)), (1, (0, v1)), (2, (0, v2))] [] K H (qi K q)
set_option maxHeartbeats 4000000 in
set_option maxRecDepth 20000 in
theorem bX11_times_0 {d : Nat} {K : Shp} {H : Mem} {q : Int → Mem → Prop} {v0 v1 v2 : Int} (h : ((0 : Int) ≤ v0) ∧ (K[(v0 : Int).toNat]? = some (11, 8)) ∧ Ci mX11_isSpan d [(2, v0), (0, v1)] K H (fun x4 H3 => (((x4 : Int) = 0 → Ci mX11_refuse d [(2, v0), (0, 1)] K H3 (fun x7 H6 => q x7 H6)) ∧ (¬ (x4 : Int) = 0 → ((0 : Int) ≤ (H3 (v0 : Int).toNat 5)) ∧ (K[((H3 (v0 : Int).toNat 5) : Int).toNat]? = some (0, 12)) ∧ ((0 : Int) ≤ (H3 ((H3 (v0 : Int).toNat 5) : Int).toNat 1)) ∧ ∃ n11 : Nat, (K[((H3 ((H3 (v0 : Int).toNat 5) : Int).toNat 1) : Int).toNat]? = some (24, n11)) ∧ ((0 : Int) ≤ v1) ∧ ((v1 : Int) < n11) ∧ ((0 : Int) ≤ (H3 ((H3 ((H3 (v0 : Int).toNat 5) : Int).toNat 1) : Int).toNat (v1 : Int).toNat)) ∧ (K[((H3 ((H3 ((H3 (v0 : Int).toNat 5) : Int).toNat 1) : Int).toNat (v1 : Int).toNat) : Int).toNat]? = some (7, 5)) ∧ (inI ((H3 ((H3 ((H3 ((H3 (v0 : Int).toNat 5) : Int).toNat 1) : Int).toNat (v1 : Int).toNat) : Int).toNat 2) - 1)) ∧ Ci mX11_isFromTo d [(0, v2), (0, 0), (0, ((H3 ((H3 ((H3 ((H3 (v0 : Int).toNat 5) : Int).toNat 1) : Int).toNat (v1 : Int).toNat) : Int).toNat 2) - 1))] K H3 (fun x19 H18 => ((¬ (x19 : Int) = 0 → ((0 : Int) ≤ (H18 (v0 : Int).toNat 5)) ∧ (K[((H18 (v0 : Int).toNat 5) : Int).toNat]? = some (0, 12)) ∧ Cv mX0_reckon d [(2, (H18 (v0 : Int).toNat 5)), (2, (H18 (v0 : Int).toNat 2)), (0, v1), (0, v2)] K H18 (fun H23 => ((0 : Int) ≤ (H23 (v0 : Int).toNat 5)) ∧ (K[((H23 (v0 : Int).toNat 5) : Int).toNat]? = some (0, 12)) ∧ Ci mX11_giveRatio d [(2, v0), (2, (H23 ((H23 (v0 : Int).toNat 5) : Int).toNat 3))] K H23 (fun x28 H27 => q x28 H27))) ∧ ((x19 : Int) = 0 → Ci mX11_refuse d [(2, v0), (0, 1)] K H18 (fun x30 H29 => q x30 H29)))))))) : FX11_times_0 d K H q (v0) (v1) (v2) := by
  unfold FX11_times_0
  refine r_aload_n 0 dX11_times_0 rfl rfl ?_
  refine r_iload_n 1 dX11_times_1 rfl rfl ?_
  obtain ⟨h1, h⟩ := h
  obtain ⟨h2, h⟩ := h
  refine r_invV (M := mX11_times) (As := [(0, v1)]) (st := []) (X := v0) (mc := 0) (ms := 0) (fc := 0) (fs := 0) h ok_X11_isSpan cls11 im_X11_isSpan se_X11_isSpan ml_RX11_196 dX11_times_2 rfl h1 h2 (Nat.le_of_ble_eq_true rfl) rfl ?_
  rintro r K1 H3 ⟨rfl, x4, rfl, h⟩ -
  show Fr mX11_times (d + 1) 0 0 none 5 [(0, (2, v0)), (1, (0, v1)), (2, (0, v2))] [(0, x4)] _ H3 _
  refine r_if_eq (tgt := 30) dX11_times_5 (by decide) (fun c5 => ?_) (fun c5 => ?_)
  · replace h := h.1 c5
    refine r_aload_n 0 dX11_times_30 rfl rfl ?_
    refine r_iconst dX11_times_31 (by decide) (by decide) ?_
    refine r_invV (M := mX11_times) (As := [(0, 1)]) (st := []) (X := v0) (mc := 0) (ms := 0) (fc := 0) (fs := 0) h ok_X11_refuse cls11 im_X11_refuse se_X11_refuse ml_RX11_88 dX11_times_32 rfl h1 h2 (Nat.le_of_ble_eq_true rfl) rfl ?_
    rintro r K1 H6 ⟨rfl, x7, rfl, h⟩ -
    show Fr mX11_times (d + 1) 0 0 none 35 [(0, (2, v0)), (1, (0, v1)), (2, (0, v2))] [(0, x7)] _ H6 _
    exact r_iret dX11_times_35 rfl ⟨rfl, _, rfl, h⟩
  · replace h := h.2 c5
    refine r_iload_n 2 dX11_times_8 rfl rfl ?_
    refine r_iconst dX11_times_9 (by decide) (by decide) ?_
    refine r_aload_n 0 dX11_times_10 rfl rfl ?_
    refine r_getf cls11 5 dX11_times_11 (by decide) fl_RX11_43 rfl h1 h2 ?_
    obtain ⟨h8, h⟩ := h
    obtain ⟨h9, h⟩ := h
    refine r_getf cls0 1 dX11_times_14 (by decide) fl_RX11_199 rfl h8 h9 ?_
    refine r_iload_n 1 dX11_times_17 rfl rfl ?_
    obtain ⟨h10, h⟩ := h
    obtain ⟨n11, h⟩ := h
    obtain ⟨h12, h⟩ := h
    obtain ⟨h13, h⟩ := h
    obtain ⟨h14, h⟩ := h
    refine r_aald 24 n11 (by decide) dX11_times_18 h10 h12 h13 h14 ?_
    obtain ⟨h15, h⟩ := h
    obtain ⟨h16, h⟩ := h
    refine r_getf cls7 2 dX11_times_19 (by decide) fl_RX11_206 rfl h15 h16 ?_
    refine r_iconst dX11_times_22 (by decide) (by decide) ?_
    obtain ⟨h17, h⟩ := h
    refine r_isub dX11_times_23 h17 ?_
    refine r_invS (M := mX11_times) (As := [(0, v2), (0, 0), (0, ((H3 ((H3 ((H3 ((H3 (v0 : Int).toNat 5) : Int).toNat 1) : Int).toNat (v1 : Int).toNat) : Int).toNat 2) - 1))]) (st := []) (mc := 0) (ms := 0) (fc := 0) (fs := 0) h ok_X11_isFromTo sm_X11_isFromTo ml_RX11_76 dX11_times_24 rfl (Nat.le_of_ble_eq_true rfl) rfl ?_
    rintro r K1 H18 ⟨rfl, x19, rfl, h⟩ -
    show Fr mX11_times (d + 1) 0 0 none 27 [(0, (2, v0)), (1, (0, v1)), (2, (0, v2))] [(0, x19)] _ H18 _
    refine r_if_ne (tgt := 36) dX11_times_27 (by decide) (fun c20 => ?_) (fun c20 => ?_)
    · replace h := h.1 c20
      refine r_aload_n 0 dX11_times_36 rfl rfl ?_
      refine r_getf cls11 5 dX11_times_37 (by decide) fl_RX11_43 rfl h1 h2 ?_
      refine r_aload_n 0 dX11_times_40 rfl rfl ?_
      refine r_getf cls11 2 dX11_times_41 (by decide) fl_RX11_22 rfl h1 h2 ?_
      refine r_iload_n 1 dX11_times_44 rfl rfl ?_
      refine r_iload_n 2 dX11_times_45 rfl rfl ?_
      obtain ⟨h21, h⟩ := h
      obtain ⟨h22, h⟩ := h
      refine r_invV (M := mX11_times) (As := [(2, (H18 (v0 : Int).toNat 2)), (0, v1), (0, v2)]) (st := []) (X := (H18 (v0 : Int).toNat 5)) (mc := 0) (ms := 0) (fc := 0) (fs := 0) h ok_X0_reckon cls0 im_X0_reckon se_X0_reckon ml_RX11_215 dX11_times_46 rfl h21 h22 (Nat.le_of_ble_eq_true rfl) rfl ?_
      rintro r K1 H23 ⟨rfl, rfl, h⟩ -
      show Fr mX11_times (d + 1) 0 0 none 49 [(0, (2, v0)), (1, (0, v1)), (2, (0, v2))] [] _ H23 _
      refine r_aload_n 0 dX11_times_49 rfl rfl ?_
      refine r_aload_n 0 dX11_times_50 rfl rfl ?_
      refine r_getf cls11 5 dX11_times_51 (by decide) fl_RX11_43 rfl h1 h2 ?_
      obtain ⟨h25, h⟩ := h
      obtain ⟨h26, h⟩ := h
      refine r_getf cls0 3 dX11_times_54 (by decide) fl_RX11_219 rfl h25 h26 ?_
      refine r_invV (M := mX11_times) (As := [(2, (H23 ((H23 (v0 : Int).toNat 5) : Int).toNat 3))]) (st := []) (X := v0) (mc := 0) (ms := 0) (fc := 0) (fs := 0) h ok_X11_giveRatio cls11 im_X11_giveRatio se_X11_giveRatio ml_RX11_223 dX11_times_57 rfl h1 h2 (Nat.le_of_ble_eq_true rfl) rfl ?_
      rintro r K1 H27 ⟨rfl, x28, rfl, h⟩ -
      show Fr mX11_times (d + 1) 0 0 none 60 [(0, (2, v0)), (1, (0, v1)), (2, (0, v2))] [(0, x28)] _ H27 _
      exact r_iret dX11_times_60 rfl ⟨rfl, _, rfl, h⟩
    · replace h := h.2 c20
      refine r_aload_n 0 dX11_times_30 rfl rfl ?_
      refine r_iconst dX11_times_31 (by decide) (by decide) ?_
      refine r_invV (M := mX11_times) (As := [(0, 1)]) (st := []) (X := v0) (mc := 0) (ms := 0) (fc := 0) (fs := 0) h ok_X11_refuse cls11 im_X11_refuse se_X11_refuse ml_RX11_88 dX11_times_32 rfl h1 h2 (Nat.le_of_ble_eq_true rfl) rfl ?_
      rintro r K1 H29 ⟨rfl, x30, rfl, h⟩ -
      show Fr mX11_times (d + 1) 0 0 none 35 [(0, (2, v0)), (1, (0, v1)), (2, (0, v2))] [(0, x30)] _ H29 _
      exact r_iret dX11_times_35 rfl ⟨rfl, _, rfl, h⟩
set_option maxHeartbeats 4000000 in
set_option maxRecDepth 20000 in
theorem eX11_times {d : Nat} {K : Shp} {H : Mem} {q : Int → Mem → Prop} {v0 v1 v2 : Int} (h : inI v1 → inI v2 → Rng K H → FX11_times_0 d K H q v0 v1 v2) : Ci mX11_times (d + 1) [(2, v0), (0, v1), (0, v2)] K H q := Call.of rfl (Nat.le_of_ble_eq_true rfl) (fun o r => h (o (0, v1) (by simp)) (o (0, v2) (by simp)) r)
def FX11_factor_0 (d : Nat) (K : Shp) (H : Mem) (q : Int → Mem → Prop) (v0 : Int) : Prop := Fr mX11_factor (d + 1) 0 0 none 0 [(0, (2, v0))] [] K H (qi K q)
set_option maxHeartbeats 4000000 in
set_option maxRecDepth 20000 in
theorem bX11_factor_0 {d : Nat} {K : Shp} {H : Mem} {q : Int → Mem → Prop} {v0 : Int} (h : ((0 : Int) ≤ v0) ∧ (K[(v0 : Int).toNat]? = some (11, 8)) ∧ ((0 : Int) ≤ (H (v0 : Int).toNat 5)) ∧ (K[((H (v0 : Int).toNat 5) : Int).toNat]? = some (0, 12)) ∧ Ci mX0_reckonLeast d [(2, (H (v0 : Int).toNat 5)), (2, (H (v0 : Int).toNat 2))] K H (fun x6 H5 => ((¬ (x6 : Int) = 0 → ((0 : Int) ≤ (H5 (v0 : Int).toNat 5)) ∧ (K[((H5 (v0 : Int).toNat 5) : Int).toNat]? = some (0, 12)) ∧ Ci mX11_giveRatio d [(2, v0), (2, (H5 ((H5 (v0 : Int).toNat 5) : Int).toNat 4))] K H5 (fun x11 H10 => q x11 H10)) ∧ ((x6 : Int) = 0 → Ci mX11_refuse d [(2, v0), (0, 6)] K H5 (fun x13 H12 => q x13 H12))))) : FX11_factor_0 d K H q (v0) := by
  unfold FX11_factor_0
  refine r_aload_n 0 dX11_factor_0 rfl rfl ?_
  obtain ⟨h1, h⟩ := h
  obtain ⟨h2, h⟩ := h
  refine r_getf cls11 5 dX11_factor_1 (by decide) fl_RX11_43 rfl h1 h2 ?_
  refine r_aload_n 0 dX11_factor_4 rfl rfl ?_
  refine r_getf cls11 2 dX11_factor_5 (by decide) fl_RX11_22 rfl h1 h2 ?_
  obtain ⟨h3, h⟩ := h
  obtain ⟨h4, h⟩ := h
  refine r_invV (M := mX11_factor) (As := [(2, (H (v0 : Int).toNat 2))]) (st := []) (X := (H (v0 : Int).toNat 5)) (mc := 0) (ms := 0) (fc := 0) (fs := 0) h ok_X0_reckonLeast cls0 im_X0_reckonLeast se_X0_reckonLeast ml_RX11_227 dX11_factor_8 rfl h3 h4 (Nat.le_of_ble_eq_true rfl) rfl ?_
  rintro r K1 H5 ⟨rfl, x6, rfl, h⟩ -
  show Fr mX11_factor (d + 1) 0 0 none 11 [(0, (2, v0))] [(0, x6)] _ H5 _
  refine r_if_ne (tgt := 21) dX11_factor_11 (by decide) (fun c7 => ?_) (fun c7 => ?_)
  · replace h := h.1 c7
    refine r_aload_n 0 dX11_factor_21 rfl rfl ?_
    refine r_aload_n 0 dX11_factor_22 rfl rfl ?_
    refine r_getf cls11 5 dX11_factor_23 (by decide) fl_RX11_43 rfl h1 h2 ?_
    obtain ⟨h8, h⟩ := h
    obtain ⟨h9, h⟩ := h
    refine r_getf cls0 4 dX11_factor_26 (by decide) fl_RX11_231 rfl h8 h9 ?_
    refine r_invV (M := mX11_factor) (As := [(2, (H5 ((H5 (v0 : Int).toNat 5) : Int).toNat 4))]) (st := []) (X := v0) (mc := 0) (ms := 0) (fc := 0) (fs := 0) h ok_X11_giveRatio cls11 im_X11_giveRatio se_X11_giveRatio ml_RX11_223 dX11_factor_29 rfl h1 h2 (Nat.le_of_ble_eq_true rfl) rfl ?_
    rintro r K1 H10 ⟨rfl, x11, rfl, h⟩ -
    show Fr mX11_factor (d + 1) 0 0 none 32 [(0, (2, v0))] [(0, x11)] _ H10 _
    exact r_iret dX11_factor_32 rfl ⟨rfl, _, rfl, h⟩
  · replace h := h.2 c7
    refine r_aload_n 0 dX11_factor_14 rfl rfl ?_
    refine r_bipush dX11_factor_15 (by decide) (by decide) ?_
    refine r_invV (M := mX11_factor) (As := [(0, 6)]) (st := []) (X := v0) (mc := 0) (ms := 0) (fc := 0) (fs := 0) h ok_X11_refuse cls11 im_X11_refuse se_X11_refuse ml_RX11_88 dX11_factor_17 rfl h1 h2 (Nat.le_of_ble_eq_true rfl) rfl ?_
    rintro r K1 H12 ⟨rfl, x13, rfl, h⟩ -
    show Fr mX11_factor (d + 1) 0 0 none 20 [(0, (2, v0))] [(0, x13)] _ H12 _
    exact r_iret dX11_factor_20 rfl ⟨rfl, _, rfl, h⟩
set_option maxHeartbeats 4000000 in
set_option maxRecDepth 20000 in
theorem eX11_factor {d : Nat} {K : Shp} {H : Mem} {q : Int → Mem → Prop} {v0 : Int} (h : Rng K H → FX11_factor_0 d K H q v0) : Ci mX11_factor (d + 1) [(2, v0)] K H q := Call.of rfl (Nat.le_of_ble_eq_true rfl) (fun o r => h  r)
def FX11_weakest_0 (d : Nat) (K : Shp) (H : Mem) (q : Int → Mem → Prop) (v0 : Int) : Prop := Fr mX11_weakest (d + 1) 0 0 none 0 [(0, (2, v0))] [] K H (qi K q)
set_option maxHeartbeats 4000000 in
set_option maxRecDepth 20000 in
theorem bX11_weakest_0 {d : Nat} {K : Shp} {H : Mem} {q : Int → Mem → Prop} {v0 : Int} (h : ((0 : Int) ≤ v0) ∧ (K[(v0 : Int).toNat]? = some (11, 8)) ∧ ((0 : Int) ≤ (H (v0 : Int).toNat 5)) ∧ (K[((H (v0 : Int).toNat 5) : Int).toNat]? = some (0, 12)) ∧ Ci mX0_reckonLeast d [(2, (H (v0 : Int).toNat 5)), (2, (H (v0 : Int).toNat 2))] K H (fun x6 H5 => ((¬ (x6 : Int) = 0 → ((0 : Int) ≤ (H5 (v0 : Int).toNat 5)) ∧ (K[((H5 (v0 : Int).toNat 5) : Int).toNat]? = some (0, 12)) ∧ (inI (10 * (H5 ((H5 (v0 : Int).toNat 5) : Int).toNat 5))) ∧ (inI ((10 * (H5 ((H5 (v0 : Int).toNat 5) : Int).toNat 5)) + (H5 ((H5 (v0 : Int).toNat 5) : Int).toNat 6))) ∧ Ci mX11_give d [(2, v0), (0, ((10 * (H5 ((H5 (v0 : Int).toNat 5) : Int).toNat 5)) + (H5 ((H5 (v0 : Int).toNat 5) : Int).toNat 6)))] K H5 (fun x13 H12 => q x13 H12)) ∧ ((x6 : Int) = 0 → Ci mX11_refuse d [(2, v0), (0, 6)] K H5 (fun x15 H14 => q x15 H14))))) : FX11_weakest_0 d K H q (v0) := by
  unfold FX11_weakest_0
  refine r_aload_n 0 dX11_weakest_0 rfl rfl ?_
  obtain ⟨h1, h⟩ := h
  obtain ⟨h2, h⟩ := h
  refine r_getf cls11 5 dX11_weakest_1 (by decide) fl_RX11_43 rfl h1 h2 ?_
  refine r_aload_n 0 dX11_weakest_4 rfl rfl ?_
  refine r_getf cls11 2 dX11_weakest_5 (by decide) fl_RX11_22 rfl h1 h2 ?_
  obtain ⟨h3, h⟩ := h
  obtain ⟨h4, h⟩ := h
  refine r_invV (M := mX11_weakest) (As := [(2, (H (v0 : Int).toNat 2))]) (st := []) (X := (H (v0 : Int).toNat 5)) (mc := 0) (ms := 0) (fc := 0) (fs := 0) h ok_X0_reckonLeast cls0 im_X0_reckonLeast se_X0_reckonLeast ml_RX11_227 dX11_weakest_8 rfl h3 h4 (Nat.le_of_ble_eq_true rfl) rfl ?_
  rintro r K1 H5 ⟨rfl, x6, rfl, h⟩ -
  show Fr mX11_weakest (d + 1) 0 0 none 11 [(0, (2, v0))] [(0, x6)] _ H5 _
  refine r_if_ne (tgt := 21) dX11_weakest_11 (by decide) (fun c7 => ?_) (fun c7 => ?_)
  · replace h := h.1 c7
    refine r_aload_n 0 dX11_weakest_21 rfl rfl ?_
    refine r_bipush dX11_weakest_22 (by decide) (by decide) ?_
    refine r_aload_n 0 dX11_weakest_24 rfl rfl ?_
    refine r_getf cls11 5 dX11_weakest_25 (by decide) fl_RX11_43 rfl h1 h2 ?_
    obtain ⟨h8, h⟩ := h
    obtain ⟨h9, h⟩ := h
    refine r_getf cls0 5 dX11_weakest_28 (by decide) fl_RX11_234 rfl h8 h9 ?_
    obtain ⟨h10, h⟩ := h
    refine r_imul dX11_weakest_31 h10 ?_
    refine r_aload_n 0 dX11_weakest_32 rfl rfl ?_
    refine r_getf cls11 5 dX11_weakest_33 (by decide) fl_RX11_43 rfl h1 h2 ?_
    refine r_getf cls0 6 dX11_weakest_36 (by decide) fl_RX11_237 rfl h8 h9 ?_
    obtain ⟨h11, h⟩ := h
    refine r_iadd dX11_weakest_39 h11 ?_
    refine r_invV (M := mX11_weakest) (As := [(0, ((10 * (H5 ((H5 (v0 : Int).toNat 5) : Int).toNat 5)) + (H5 ((H5 (v0 : Int).toNat 5) : Int).toNat 6)))]) (st := []) (X := v0) (mc := 0) (ms := 0) (fc := 0) (fs := 0) h ok_X11_give cls11 im_X11_give se_X11_give ml_RX11_99 dX11_weakest_40 rfl h1 h2 (Nat.le_of_ble_eq_true rfl) rfl ?_
    rintro r K1 H12 ⟨rfl, x13, rfl, h⟩ -
    show Fr mX11_weakest (d + 1) 0 0 none 43 [(0, (2, v0))] [(0, x13)] _ H12 _
    exact r_iret dX11_weakest_43 rfl ⟨rfl, _, rfl, h⟩
  · replace h := h.2 c7
    refine r_aload_n 0 dX11_weakest_14 rfl rfl ?_
    refine r_bipush dX11_weakest_15 (by decide) (by decide) ?_
    refine r_invV (M := mX11_weakest) (As := [(0, 6)]) (st := []) (X := v0) (mc := 0) (ms := 0) (fc := 0) (fs := 0) h ok_X11_refuse cls11 im_X11_refuse se_X11_refuse ml_RX11_88 dX11_weakest_17 rfl h1 h2 (Nat.le_of_ble_eq_true rfl) rfl ?_
    rintro r K1 H14 ⟨rfl, x15, rfl, h⟩ -
    show Fr mX11_weakest (d + 1) 0 0 none 20 [(0, (2, v0))] [(0, x15)] _ H14 _
    exact r_iret dX11_weakest_20 rfl ⟨rfl, _, rfl, h⟩
set_option maxHeartbeats 4000000 in
set_option maxRecDepth 20000 in
theorem eX11_weakest {d : Nat} {K : Shp} {H : Mem} {q : Int → Mem → Prop} {v0 : Int} (h : Rng K H → FX11_weakest_0 d K H q v0) : Ci mX11_weakest (d + 1) [(2, v0)] K H q := Call.of rfl (Nat.le_of_ble_eq_true rfl) (fun o r => h  r)
def FX11_refuse_0 (d : Nat) (K : Shp) (H : Mem) (q : Int → Mem → Prop) (v0 : Int) (v1 : Int) : Prop := Fr mX11_refuse d 0 0 none 0 [(0, (2, v0)), (1, (0, v1))] [] K H (qi K q)
set_option maxHeartbeats 4000000 in
set_option maxRecDepth 20000 in
theorem bX11_refuse_0 {d : Nat} {K : Shp} {H : Mem} {q : Int → Mem → Prop} {v0 v1 : Int} (h : ((0 : Int) ≤ v0) ∧ (K[(v0 : Int).toNat]? = some (11, 8)) ∧ ∀ H3 : Mem, H3 = upA H (v0 : Int).toNat (up1 (H (v0 : Int).toNat) 0 v1) → q (-1) H3) : FX11_refuse_0 d K H q (v0) (v1) := by
  unfold FX11_refuse_0
  refine r_aload_n 0 dX11_refuse_0 rfl rfl ?_
  refine r_iload_n 1 dX11_refuse_1 rfl rfl ?_
  obtain ⟨h1, h⟩ := h
  obtain ⟨h2, h⟩ := h
  refine r_putf cls11 0 dX11_refuse_2 (by decide) rfl fl_RX11_9 rfl h1 h2 (fun o => o) ?_
  replace h := h _ rfl
  generalize upA H (v0 : Int).toNat (up1 (H (v0 : Int).toNat) 0 v1) = H3 at h ⊢
  refine r_iconst dX11_refuse_5 (by decide) (by decide) ?_
  exact r_iret dX11_refuse_6 rfl ⟨rfl, _, rfl, h⟩
set_option maxHeartbeats 4000000 in
set_option maxRecDepth 20000 in
theorem eX11_refuse {d : Nat} {K : Shp} {H : Mem} {q : Int → Mem → Prop} {v0 v1 : Int} (h : inI v1 → Rng K H → FX11_refuse_0 d K H q v0 v1) : Ci mX11_refuse d [(2, v0), (0, v1)] K H q := Call.of rfl (Nat.le_of_ble_eq_true rfl) (fun o r => h (o (0, v1) (by simp)) r)
def FX11_deny_0 (d : Nat) (K : Shp) (H : Mem) (q : Int → Mem → Prop) (v0 : Int) (v1 : Int) : Prop := Fr mX11_deny d 0 0 none 0 [(0, (2, v0)), (1, (0, v1))] [] K H (qi K q)
set_option maxHeartbeats 4000000 in
set_option maxRecDepth 20000 in
theorem bX11_deny_0 {d : Nat} {K : Shp} {H : Mem} {q : Int → Mem → Prop} {v0 v1 : Int} (h : ((0 : Int) ≤ v0) ∧ (K[(v0 : Int).toNat]? = some (11, 8)) ∧ ∀ H3 : Mem, H3 = upA H (v0 : Int).toNat (up1 (H (v0 : Int).toNat) 0 v1) → q 0 H3) : FX11_deny_0 d K H q (v0) (v1) := by
  unfold FX11_deny_0
  refine r_aload_n 0 dX11_deny_0 rfl rfl ?_
  refine r_iload_n 1 dX11_deny_1 rfl rfl ?_
  obtain ⟨h1, h⟩ := h
  obtain ⟨h2, h⟩ := h
  refine r_putf cls11 0 dX11_deny_2 (by decide) rfl fl_RX11_9 rfl h1 h2 (fun o => o) ?_
  replace h := h _ rfl
  generalize upA H (v0 : Int).toNat (up1 (H (v0 : Int).toNat) 0 v1) = H3 at h ⊢
  refine r_iconst dX11_deny_5 (by decide) (by decide) ?_
  exact r_zret dX11_deny_6 rfl (Or.inl rfl) ⟨rfl, _, rfl, h⟩
set_option maxHeartbeats 4000000 in
set_option maxRecDepth 20000 in
theorem eX11_deny {d : Nat} {K : Shp} {H : Mem} {q : Int → Mem → Prop} {v0 v1 : Int} (h : inI v1 → Rng K H → FX11_deny_0 d K H q v0 v1) : Ci mX11_deny d [(2, v0), (0, v1)] K H q := Call.of rfl (Nat.le_of_ble_eq_true rfl) (fun o r => h (o (0, v1) (by simp)) r)
def FX11_give_0 (d : Nat) (K : Shp) (H : Mem) (q : Int → Mem → Prop) (v0 : Int) (v1 : Int) : Prop := Fr mX11_give d 0 0 none 0 [(0, (2, v0)), (1, (0, v1))] [] K H (qi K q)
set_option maxHeartbeats 4000000 in
set_option maxRecDepth 20000 in
theorem bX11_give_0 {d : Nat} {K : Shp} {H : Mem} {q : Int → Mem → Prop} {v0 v1 : Int} (h : ((0 : Int) ≤ v0) ∧ (K[(v0 : Int).toNat]? = some (11, 8)) ∧ ∀ H3 : Mem, H3 = upA H (v0 : Int).toNat (up1 (H (v0 : Int).toNat) 0 0) → q v1 H3) : FX11_give_0 d K H q (v0) (v1) := by
  unfold FX11_give_0
  refine r_aload_n 0 dX11_give_0 rfl rfl ?_
  refine r_iconst dX11_give_1 (by decide) (by decide) ?_
  obtain ⟨h1, h⟩ := h
  obtain ⟨h2, h⟩ := h
  refine r_putf cls11 0 dX11_give_2 (by decide) rfl fl_RX11_9 rfl h1 h2 (fun o => o) ?_
  replace h := h _ rfl
  generalize upA H (v0 : Int).toNat (up1 (H (v0 : Int).toNat) 0 0) = H3 at h ⊢
  refine r_iload_n 1 dX11_give_5 rfl rfl ?_
  exact r_iret dX11_give_6 rfl ⟨rfl, _, rfl, h⟩
set_option maxHeartbeats 4000000 in
set_option maxRecDepth 20000 in
theorem eX11_give {d : Nat} {K : Shp} {H : Mem} {q : Int → Mem → Prop} {v0 v1 : Int} (h : inI v1 → Rng K H → FX11_give_0 d K H q v0 v1) : Ci mX11_give d [(2, v0), (0, v1)] K H q := Call.of rfl (Nat.le_of_ble_eq_true rfl) (fun o r => h (o (0, v1) (by simp)) r)
def FX11_allow_0 (d : Nat) (K : Shp) (H : Mem) (q : Int → Mem → Prop) (v0 : Int) : Prop := Fr mX11_allow d 0 0 none 0 [(0, (2, v0))] [] K H (qi K q)
set_option maxHeartbeats 4000000 in
set_option maxRecDepth 20000 in
theorem bX11_allow_0 {d : Nat} {K : Shp} {H : Mem} {q : Int → Mem → Prop} {v0 : Int} (h : ((0 : Int) ≤ v0) ∧ (K[(v0 : Int).toNat]? = some (11, 8)) ∧ ∀ H3 : Mem, H3 = upA H (v0 : Int).toNat (up1 (H (v0 : Int).toNat) 0 0) → q 1 H3) : FX11_allow_0 d K H q (v0) := by
  unfold FX11_allow_0
  refine r_aload_n 0 dX11_allow_0 rfl rfl ?_
  refine r_iconst dX11_allow_1 (by decide) (by decide) ?_
  obtain ⟨h1, h⟩ := h
  obtain ⟨h2, h⟩ := h
  refine r_putf cls11 0 dX11_allow_2 (by decide) rfl fl_RX11_9 rfl h1 h2 (fun o => o) ?_
  replace h := h _ rfl
  generalize upA H (v0 : Int).toNat (up1 (H (v0 : Int).toNat) 0 0) = H3 at h ⊢
  refine r_iconst dX11_allow_5 (by decide) (by decide) ?_
  exact r_zret dX11_allow_6 rfl (Or.inr rfl) ⟨rfl, _, rfl, h⟩
set_option maxHeartbeats 4000000 in
set_option maxRecDepth 20000 in
theorem eX11_allow {d : Nat} {K : Shp} {H : Mem} {q : Int → Mem → Prop} {v0 : Int} (h : Rng K H → FX11_allow_0 d K H q v0) : Ci mX11_allow d [(2, v0)] K H q := Call.of rfl (Nat.le_of_ble_eq_true rfl) (fun o r => h  r)
def FX11_giveShare_0 (d : Nat) (K : Shp) (H : Mem) (q : Int → Mem → Prop) (v0 : Int) (v1 : Int) : Prop := Fr mX11_giveShare (d + 1) 0 0 none 0 [(0, (2, v0)), (1, (2, v1))] [] K H (qi K q)
set_option maxHeartbeats 4000000 in
set_option maxRecDepth 20000 in
theorem bX11_giveShare_0 {d : Nat} {K : Shp} {H : Mem} {q : Int → Mem → Prop} {v0 v1 : Int} (h : ((0 : Int) ≤ v0) ∧ (K[(v0 : Int).toNat]? = some (11, 8)) ∧ ((0 : Int) ≤ (H (v0 : Int).toNat 1)) ∧ (K[((H (v0 : Int).toNat 1) : Int).toNat]? = some (8, 3)) ∧ Cv mX8_writeShare d [(2, (H (v0 : Int).toNat 1)), (2, v1)] K H (fun H5 => ((0 : Int) ≤ (H5 (v0 : Int).toNat 1)) ∧ (K[((H5 (v0 : Int).toNat 1) : Int).toNat]? = some (8, 3)) ∧ Ci mX11_give d [(2, v0), (0, (H5 ((H5 (v0 : Int).toNat 1) : Int).toNat 0))] K H5 (fun x10 H9 => q x10 H9))) : FX11_giveShare_0 d K H q (v0) (v1) := by
  unfold FX11_giveShare_0
  refine r_aload_n 0 dX11_giveShare_0 rfl rfl ?_
  obtain ⟨h1, h⟩ := h
  obtain ⟨h2, h⟩ := h
  refine r_getf cls11 1 dX11_giveShare_1 (by decide) fl_RX11_16 rfl h1 h2 ?_
  refine r_aload_n 1 dX11_giveShare_4 rfl rfl ?_
  obtain ⟨h3, h⟩ := h
  obtain ⟨h4, h⟩ := h
  refine r_invV (M := mX11_giveShare) (As := [(2, v1)]) (st := []) (X := (H (v0 : Int).toNat 1)) (mc := 0) (ms := 0) (fc := 0) (fs := 0) h ok_X8_writeShare cls8 im_X8_writeShare se_X8_writeShare ml_RX11_240 dX11_giveShare_5 rfl h3 h4 (Nat.le_of_ble_eq_true rfl) rfl ?_
  rintro r K1 H5 ⟨rfl, rfl, h⟩ -
  show Fr mX11_giveShare (d + 1) 0 0 none 8 [(0, (2, v0)), (1, (2, v1))] [] _ H5 _
  refine r_aload_n 0 dX11_giveShare_8 rfl rfl ?_
  refine r_aload_n 0 dX11_giveShare_9 rfl rfl ?_
  refine r_getf cls11 1 dX11_giveShare_10 (by decide) fl_RX11_16 rfl h1 h2 ?_
  obtain ⟨h7, h⟩ := h
  obtain ⟨h8, h⟩ := h
  refine r_getf cls8 0 dX11_giveShare_13 (by decide) fl_RX11_62 rfl h7 h8 ?_
  refine r_invV (M := mX11_giveShare) (As := [(0, (H5 ((H5 (v0 : Int).toNat 1) : Int).toNat 0))]) (st := []) (X := v0) (mc := 0) (ms := 0) (fc := 0) (fs := 0) h ok_X11_give cls11 im_X11_give se_X11_give ml_RX11_99 dX11_giveShare_16 rfl h1 h2 (Nat.le_of_ble_eq_true rfl) rfl ?_
  rintro r K1 H9 ⟨rfl, x10, rfl, h⟩ -
  show Fr mX11_giveShare (d + 1) 0 0 none 19 [(0, (2, v0)), (1, (2, v1))] [(0, x10)] _ H9 _
  exact r_iret dX11_giveShare_19 rfl ⟨rfl, _, rfl, h⟩
set_option maxHeartbeats 4000000 in
set_option maxRecDepth 20000 in
theorem eX11_giveShare {d : Nat} {K : Shp} {H : Mem} {q : Int → Mem → Prop} {v0 v1 : Int} (h : Rng K H → FX11_giveShare_0 d K H q v0 v1) : Ci mX11_giveShare (d + 1) [(2, v0), (2, v1)] K H q := Call.of rfl (Nat.le_of_ble_eq_true rfl) (fun o r => h  r)
def FX11_giveRatio_0 (d : Nat) (K : Shp) (H : Mem) (q : Int → Mem → Prop) (v0 : Int) (v1 : Int) : Prop := Fr mX11_giveRatio (d + 1) 0 0 none 0 [(0, (2, v0)), (1, (2, v1))] [] K H (qi K q)
set_option maxHeartbeats 4000000 in
set_option maxRecDepth 20000 in
theorem bX11_giveRatio_0 {d : Nat} {K : Shp} {H : Mem} {q : Int → Mem → Prop} {v0 v1 : Int} (h : ((0 : Int) ≤ v0) ∧ (K[(v0 : Int).toNat]? = some (11, 8)) ∧ ((0 : Int) ≤ (H (v0 : Int).toNat 1)) ∧ (K[((H (v0 : Int).toNat 1) : Int).toNat]? = some (8, 3)) ∧ Cv mX8_writeRatio d [(2, (H (v0 : Int).toNat 1)), (0, 0), (2, v1)] K H (fun H5 => ((0 : Int) ≤ (H5 (v0 : Int).toNat 1)) ∧ (K[((H5 (v0 : Int).toNat 1) : Int).toNat]? = some (8, 3)) ∧ Ci mX11_give d [(2, v0), (0, (H5 ((H5 (v0 : Int).toNat 1) : Int).toNat 0))] K H5 (fun x10 H9 => q x10 H9))) : FX11_giveRatio_0 d K H q (v0) (v1) := by
  unfold FX11_giveRatio_0
  refine r_aload_n 0 dX11_giveRatio_0 rfl rfl ?_
  obtain ⟨h1, h⟩ := h
  obtain ⟨h2, h⟩ := h
  refine r_getf cls11 1 dX11_giveRatio_1 (by decide) fl_RX11_16 rfl h1 h2 ?_
  refine r_iconst dX11_giveRatio_4 (by decide) (by decide) ?_
  refine r_aload_n 1 dX11_giveRatio_5 rfl rfl ?_
  obtain ⟨h3, h⟩ := h
  obtain ⟨h4, h⟩ := h
  refine r_invV (M := mX11_giveRatio) (As := [(0, 0), (2, v1)]) (st := []) (X := (H (v0 : Int).toNat 1)) (mc := 0) (ms := 0) (fc := 0) (fs := 0) h ok_X8_writeRatio cls8 im_X8_writeRatio se_X8_writeRatio ml_RX11_244 dX11_giveRatio_6 rfl h3 h4 (Nat.le_of_ble_eq_true rfl) rfl ?_
  rintro r K1 H5 ⟨rfl, rfl, h⟩ -
  show Fr mX11_giveRatio (d + 1) 0 0 none 9 [(0, (2, v0)), (1, (2, v1))] [] _ H5 _
  refine r_aload_n 0 dX11_giveRatio_9 rfl rfl ?_
  refine r_aload_n 0 dX11_giveRatio_10 rfl rfl ?_
  refine r_getf cls11 1 dX11_giveRatio_11 (by decide) fl_RX11_16 rfl h1 h2 ?_
  obtain ⟨h7, h⟩ := h
  obtain ⟨h8, h⟩ := h
  refine r_getf cls8 0 dX11_giveRatio_14 (by decide) fl_RX11_62 rfl h7 h8 ?_
  refine r_invV (M := mX11_giveRatio) (As := [(0, (H5 ((H5 (v0 : Int).toNat 1) : Int).toNat 0))]) (st := []) (X := v0) (mc := 0) (ms := 0) (fc := 0) (fs := 0) h ok_X11_give cls11 im_X11_give se_X11_give ml_RX11_99 dX11_giveRatio_17 rfl h1 h2 (Nat.le_of_ble_eq_true rfl) rfl ?_
  rintro r K1 H9 ⟨rfl, x10, rfl, h⟩ -
  show Fr mX11_giveRatio (d + 1) 0 0 none 20 [(0, (2, v0)), (1, (2, v1))] [(0, x10)] _ H9 _
  exact r_iret dX11_giveRatio_20 rfl ⟨rfl, _, rfl, h⟩
set_option maxHeartbeats 4000000 in
set_option maxRecDepth 20000 in
theorem eX11_giveRatio {d : Nat} {K : Shp} {H : Mem} {q : Int → Mem → Prop} {v0 v1 : Int} (h : Rng K H → FX11_giveRatio_0 d K H q v0 v1) : Ci mX11_giveRatio (d + 1) [(2, v0), (2, v1)] K H q := Call.of rfl (Nat.le_of_ble_eq_true rfl) (fun o r => h  r)
def FX11_isSection_0 (d : Nat) (K : Shp) (H : Mem) (q : Int → Mem → Prop) (v0 : Int) (v1 : Int) : Prop := Fr mX11_isSection (d + 1) 0 0 none 0 [(0, (2, v0)), (1, (0, v1))] [] K H (qi K q)
set_option maxHeartbeats 4000000 in
set_option maxRecDepth 20000 in
theorem bX11_isSection_0 {d : Nat} {K : Shp} {H : Mem} {q : Int → Mem → Prop} {v0 v1 : Int} (h : Ci mX11_isFromTo d [(0, v1), (0, 0), (0, 3)] K H (fun x2 H1 => ((x2 : Int) = 0 ∨ (x2 : Int) = 1) ∧ q x2 H1)) : FX11_isSection_0 d K H q (v0) (v1) := by
  unfold FX11_isSection_0
  refine r_iload_n 1 dX11_isSection_0 rfl rfl ?_
  refine r_iconst dX11_isSection_1 (by decide) (by decide) ?_
  refine r_iconst dX11_isSection_2 (by decide) (by decide) ?_
  refine r_invS (M := mX11_isSection) (As := [(0, v1), (0, 0), (0, 3)]) (st := []) (mc := 0) (ms := 0) (fc := 0) (fs := 0) h ok_X11_isFromTo sm_X11_isFromTo ml_RX11_76 dX11_isSection_3 rfl (Nat.le_of_ble_eq_true rfl) rfl ?_
  rintro r K1 H1 ⟨rfl, x2, rfl, h⟩ -
  show Fr mX11_isSection (d + 1) 0 0 none 6 [(0, (2, v0)), (1, (0, v1))] [(0, x2)] _ H1 _
  obtain ⟨h3, h⟩ := h
  exact r_zret dX11_isSection_6 rfl h3 ⟨rfl, _, rfl, h⟩
set_option maxHeartbeats 4000000 in
set_option maxRecDepth 20000 in
theorem eX11_isSection {d : Nat} {K : Shp} {H : Mem} {q : Int → Mem → Prop} {v0 v1 : Int} (h : inI v1 → Rng K H → FX11_isSection_0 d K H q v0 v1) : Ci mX11_isSection (d + 1) [(2, v0), (0, v1)] K H q := Call.of rfl (Nat.le_of_ble_eq_true rfl) (fun o r => h (o (0, v1) (by simp)) r)
def FX11_isRod_0 (d : Nat) (K : Shp) (H : Mem) (q : Int → Mem → Prop) (v0 : Int) (v1 : Int) (v2 : Int) : Prop := Fr mX11_isRod (d + 1) 0 0 none 0 [(0, (2, v0)), (1, (0, v1)), (2, (0, v2))] [] K H (qi K q)
set_option maxHeartbeats 4000000 in
set_option maxRecDepth 20000 in
theorem bX11_isRod_0 {d : Nat} {K : Shp} {H : Mem} {q : Int → Mem → Prop} {v0 v1 v2 : Int} (h : ((0 : Int) ≤ v0) ∧ (K[(v0 : Int).toNat]? = some (11, 8)) ∧ Ci mX11_isSection d [(2, v0), (0, v1)] K H (fun x4 H3 => (((x4 : Int) = 0 → q 0 H3) ∧ (¬ (x4 : Int) = 0 → ((0 : Int) ≤ (H3 (v0 : Int).toNat 2)) ∧ ∃ n7 : Nat, (K[((H3 (v0 : Int).toNat 2) : Int).toNat]? = some (23, n7)) ∧ ((0 : Int) ≤ v1) ∧ ((v1 : Int) < n7) ∧ ((0 : Int) ≤ (H3 ((H3 (v0 : Int).toNat 2) : Int).toNat (v1 : Int).toNat)) ∧ (K[((H3 ((H3 (v0 : Int).toNat 2) : Int).toNat (v1 : Int).toNat) : Int).toNat]? = some (4, 18)) ∧ (inI ((H3 ((H3 ((H3 (v0 : Int).toNat 2) : Int).toNat (v1 : Int).toNat) : Int).toNat 7) - 1)) ∧ Ci mX11_isFromTo d [(0, v2), (0, 0), (0, ((H3 ((H3 ((H3 (v0 : Int).toNat 2) : Int).toNat (v1 : Int).toNat) : Int).toNat 7) - 1))] K H3 (fun x15 H14 => (((x15 : Int) = 0 → q 0 H14) ∧ (¬ (x15 : Int) = 0 → q 1 H14))))))) : FX11_isRod_0 d K H q (v0) (v1) (v2) := by
  unfold FX11_isRod_0
  refine r_aload_n 0 dX11_isRod_0 rfl rfl ?_
  refine r_iload_n 1 dX11_isRod_1 rfl rfl ?_
  obtain ⟨h1, h⟩ := h
  obtain ⟨h2, h⟩ := h
  refine r_invV (M := mX11_isRod) (As := [(0, v1)]) (st := []) (X := v0) (mc := 0) (ms := 0) (fc := 0) (fs := 0) h ok_X11_isSection cls11 im_X11_isSection se_X11_isSection ml_RX11_69 dX11_isRod_2 rfl h1 h2 (Nat.le_of_ble_eq_true rfl) rfl ?_
  rintro r K1 H3 ⟨rfl, x4, rfl, h⟩ -
  show Fr mX11_isRod (d + 1) 0 0 none 5 [(0, (2, v0)), (1, (0, v1)), (2, (0, v2))] [(0, x4)] _ H3 _
  refine r_if_eq (tgt := 31) dX11_isRod_5 (by decide) (fun c5 => ?_) (fun c5 => ?_)
  · replace h := h.1 c5
    refine r_iconst dX11_isRod_31 (by decide) (by decide) ?_
    exact r_zret dX11_isRod_32 rfl (Or.inl rfl) ⟨rfl, _, rfl, h⟩
  · replace h := h.2 c5
    refine r_iload_n 2 dX11_isRod_8 rfl rfl ?_
    refine r_iconst dX11_isRod_9 (by decide) (by decide) ?_
    refine r_aload_n 0 dX11_isRod_10 rfl rfl ?_
    refine r_getf cls11 2 dX11_isRod_11 (by decide) fl_RX11_22 rfl h1 h2 ?_
    refine r_iload_n 1 dX11_isRod_14 rfl rfl ?_
    obtain ⟨h6, h⟩ := h
    obtain ⟨n7, h⟩ := h
    obtain ⟨h8, h⟩ := h
    obtain ⟨h9, h⟩ := h
    obtain ⟨h10, h⟩ := h
    refine r_aald 23 n7 (by decide) dX11_isRod_15 h6 h8 h9 h10 ?_
    obtain ⟨h11, h⟩ := h
    obtain ⟨h12, h⟩ := h
    refine r_getf cls4 7 dX11_isRod_16 (by decide) fl_RX11_102 rfl h11 h12 ?_
    refine r_iconst dX11_isRod_19 (by decide) (by decide) ?_
    obtain ⟨h13, h⟩ := h
    refine r_isub dX11_isRod_20 h13 ?_
    refine r_invS (M := mX11_isRod) (As := [(0, v2), (0, 0), (0, ((H3 ((H3 ((H3 (v0 : Int).toNat 2) : Int).toNat (v1 : Int).toNat) : Int).toNat 7) - 1))]) (st := []) (mc := 0) (ms := 0) (fc := 0) (fs := 0) h ok_X11_isFromTo sm_X11_isFromTo ml_RX11_76 dX11_isRod_21 rfl (Nat.le_of_ble_eq_true rfl) rfl ?_
    rintro r K1 H14 ⟨rfl, x15, rfl, h⟩ -
    show Fr mX11_isRod (d + 1) 0 0 none 24 [(0, (2, v0)), (1, (0, v1)), (2, (0, v2))] [(0, x15)] _ H14 _
    refine r_if_eq (tgt := 31) dX11_isRod_24 (by decide) (fun c16 => ?_) (fun c16 => ?_)
    · replace h := h.1 c16
      refine r_iconst dX11_isRod_31 (by decide) (by decide) ?_
      exact r_zret dX11_isRod_32 rfl (Or.inl rfl) ⟨rfl, _, rfl, h⟩
    · replace h := h.2 c16
      refine r_iconst dX11_isRod_27 (by decide) (by decide) ?_
      refine r_goto (tgt := 32) dX11_isRod_28 (by decide) ?_
      exact r_zret dX11_isRod_32 rfl (Or.inr rfl) ⟨rfl, _, rfl, h⟩
set_option maxHeartbeats 4000000 in
set_option maxRecDepth 20000 in
theorem eX11_isRod {d : Nat} {K : Shp} {H : Mem} {q : Int → Mem → Prop} {v0 v1 v2 : Int} (h : inI v1 → inI v2 → Rng K H → FX11_isRod_0 d K H q v0 v1 v2) : Ci mX11_isRod (d + 1) [(2, v0), (0, v1), (0, v2)] K H q := Call.of rfl (Nat.le_of_ble_eq_true rfl) (fun o r => h (o (0, v1) (by simp)) (o (0, v2) (by simp)) r)
def FX11_isSpan_0 (d : Nat) (K : Shp) (H : Mem) (q : Int → Mem → Prop) (v0 : Int) (v1 : Int) : Prop := Fr mX11_isSpan (d + 1) 0 0 none 0 [(0, (2, v0)), (1, (0, v1))] [] K H (qi K q)
set_option maxHeartbeats 4000000 in
set_option maxRecDepth 20000 in
theorem bX11_isSpan_0 {d : Nat} {K : Shp} {H : Mem} {q : Int → Mem → Prop} {v0 v1 : Int} (h : ((0 : Int) ≤ v0) ∧ (K[(v0 : Int).toNat]? = some (11, 8)) ∧ ((0 : Int) ≤ (H (v0 : Int).toNat 5)) ∧ (K[((H (v0 : Int).toNat 5) : Int).toNat]? = some (0, 12)) ∧ (inI ((H ((H (v0 : Int).toNat 5) : Int).toNat 0) - 1)) ∧ Ci mX11_isFromTo d [(0, v1), (0, 0), (0, ((H ((H (v0 : Int).toNat 5) : Int).toNat 0) - 1))] K H (fun x7 H6 => ((x7 : Int) = 0 ∨ (x7 : Int) = 1) ∧ q x7 H6)) : FX11_isSpan_0 d K H q (v0) (v1) := by
  unfold FX11_isSpan_0
  refine r_iload_n 1 dX11_isSpan_0 rfl rfl ?_
  refine r_iconst dX11_isSpan_1 (by decide) (by decide) ?_
  refine r_aload_n 0 dX11_isSpan_2 rfl rfl ?_
  obtain ⟨h1, h⟩ := h
  obtain ⟨h2, h⟩ := h
  refine r_getf cls11 5 dX11_isSpan_3 (by decide) fl_RX11_43 rfl h1 h2 ?_
  obtain ⟨h3, h⟩ := h
  obtain ⟨h4, h⟩ := h
  refine r_getf cls0 0 dX11_isSpan_6 (by decide) fl_RX11_188 rfl h3 h4 ?_
  refine r_iconst dX11_isSpan_9 (by decide) (by decide) ?_
  obtain ⟨h5, h⟩ := h
  refine r_isub dX11_isSpan_10 h5 ?_
  refine r_invS (M := mX11_isSpan) (As := [(0, v1), (0, 0), (0, ((H ((H (v0 : Int).toNat 5) : Int).toNat 0) - 1))]) (st := []) (mc := 0) (ms := 0) (fc := 0) (fs := 0) h ok_X11_isFromTo sm_X11_isFromTo ml_RX11_76 dX11_isSpan_11 rfl (Nat.le_of_ble_eq_true rfl) rfl ?_
  rintro r K1 H6 ⟨rfl, x7, rfl, h⟩ -
  show Fr mX11_isSpan (d + 1) 0 0 none 14 [(0, (2, v0)), (1, (0, v1))] [(0, x7)] _ H6 _
  obtain ⟨h8, h⟩ := h
  exact r_zret dX11_isSpan_14 rfl h8 ⟨rfl, _, rfl, h⟩
set_option maxHeartbeats 4000000 in
set_option maxRecDepth 20000 in
theorem eX11_isSpan {d : Nat} {K : Shp} {H : Mem} {q : Int → Mem → Prop} {v0 v1 : Int} (h : inI v1 → Rng K H → FX11_isSpan_0 d K H q v0 v1) : Ci mX11_isSpan (d + 1) [(2, v0), (0, v1)] K H q := Call.of rfl (Nat.le_of_ble_eq_true rfl) (fun o r => h (o (0, v1) (by simp)) r)
def FX11_isFromTo_0 (d : Nat) (K : Shp) (H : Mem) (q : Int → Mem → Prop) (v0 : Int) (v1 : Int) (v2 : Int) : Prop := Fr mX11_isFromTo d 0 0 none 0 [(0, (0, v0)), (1, (0, v1)), (2, (0, v2))] [] K H (qi K q)
set_option maxHeartbeats 4000000 in
set_option maxRecDepth 20000 in
theorem bX11_isFromTo_0 {d : Nat} {K : Shp} {H : Mem} {q : Int → Mem → Prop} {v0 v1 v2 : Int} (h : (((v0 : Int) < v1 → q 0 H) ∧ (¬ (v0 : Int) < v1 → ((¬ (v0 : Int) ≤ v2 → q 0 H) ∧ ((v0 : Int) ≤ v2 → q 1 H))))) : FX11_isFromTo_0 d K H q (v0) (v1) (v2) := by
  unfold FX11_isFromTo_0
  refine r_iload_n 0 dX11_isFromTo_0 rfl rfl ?_
  refine r_iload_n 1 dX11_isFromTo_1 rfl rfl ?_
  refine r_icmp_lt (tgt := 14) dX11_isFromTo_2 (by decide) (fun c1 => ?_) (fun c1 => ?_)
  · replace h := h.1 c1
    refine r_iconst dX11_isFromTo_14 (by decide) (by decide) ?_
    exact r_zret dX11_isFromTo_15 rfl (Or.inl rfl) ⟨rfl, _, rfl, h⟩
  · replace h := h.2 c1
    refine r_iload_n 0 dX11_isFromTo_5 rfl rfl ?_
    refine r_iload_n 2 dX11_isFromTo_6 rfl rfl ?_
    refine r_icmp_gt (tgt := 14) dX11_isFromTo_7 (by decide) (fun c2 => ?_) (fun c2 => ?_)
    · replace h := h.1 c2
      refine r_iconst dX11_isFromTo_14 (by decide) (by decide) ?_
      exact r_zret dX11_isFromTo_15 rfl (Or.inl rfl) ⟨rfl, _, rfl, h⟩
    · replace h := h.2 c2
      refine r_iconst dX11_isFromTo_10 (by decide) (by decide) ?_
      refine r_goto (tgt := 15) dX11_isFromTo_11 (by decide) ?_
      exact r_zret dX11_isFromTo_15 rfl (Or.inr rfl) ⟨rfl, _, rfl, h⟩
set_option maxHeartbeats 4000000 in
set_option maxRecDepth 20000 in
theorem eX11_isFromTo {d : Nat} {K : Shp} {H : Mem} {q : Int → Mem → Prop} {v0 v1 v2 : Int} (h : inI v0 → inI v1 → inI v2 → Rng K H → FX11_isFromTo_0 d K H q v0 v1 v2) : Ci mX11_isFromTo d [(0, v0), (0, v1), (0, v2)] K H q := Call.of rfl (Nat.le_of_ble_eq_true rfl) (fun o r => h (o (0, v0) (by simp)) (o (0, v1) (by simp)) (o (0, v2) (by simp)) r)
def FX11_isNear_0 (d : Nat) (K : Shp) (H : Mem) (q : Int → Mem → Prop) (v0 : Int) : Prop := Fr mX11_isNear (d + 1) 0 0 none 0 [(0, (0, v0))] [] K H (qi K q)
set_option maxHeartbeats 4000000 in
set_option maxRecDepth 20000 in
theorem bX11_isNear_0 {d : Nat} {K : Shp} {H : Mem} {q : Int → Mem → Prop} {v0 : Int} (h : Ci mX11_isFromTo d [(0, v0), (0, (-1000000)), (0, 1000000)] K H (fun x2 H1 => ((x2 : Int) = 0 ∨ (x2 : Int) = 1) ∧ q x2 H1)) : FX11_isNear_0 d K H q (v0) := by
  unfold FX11_isNear_0
  refine r_iload_n 0 dX11_isNear_0 rfl rfl ?_
  refine r_ldc (x := -1000000) dX11_isNear_1 kc_RX11_248 (by decide) (by decide) ?_
  refine r_ldc (x := 1000000) dX11_isNear_3 kc_RX11_249 (by decide) (by decide) ?_
  refine r_invS (M := mX11_isNear) (As := [(0, v0), (0, (-1000000)), (0, 1000000)]) (st := []) (mc := 0) (ms := 0) (fc := 0) (fs := 0) h ok_X11_isFromTo sm_X11_isFromTo ml_RX11_76 dX11_isNear_5 rfl (Nat.le_of_ble_eq_true rfl) rfl ?_
  rintro r K1 H1 ⟨rfl, x2, rfl, h⟩ -
  show Fr mX11_isNear (d + 1) 0 0 none 8 [(0, (0, v0))] [(0, x2)] _ H1 _
  obtain ⟨h3, h⟩ := h
  exact r_zret dX11_isNear_8 rfl h3 ⟨rfl, _, rfl, h⟩
set_option maxHeartbeats 4000000 in
set_option maxRecDepth 20000 in
theorem eX11_isNear {d : Nat} {K : Shp} {H : Mem} {q : Int → Mem → Prop} {v0 : Int} (h : inI v0 → Rng K H → FX11_isNear_0 d K H q v0) : Ci mX11_isNear (d + 1) [(0, v0)] K H q := Call.of rfl (Nat.le_of_ble_eq_true rfl) (fun o r => h (o (0, v0) (by simp)) r)
def FX11_walkTo_0 (d : Nat) (K : Shp) (H : Mem) (q : Int → Mem → Prop) (v0 : Int) (v1 : Int) (v2 : Int) (v3 : Int) : Prop := Fr mX11_walkTo (d + 1) 0 0 none 0 [(0, (2, v0)), (1, (0, v1)), (2, (0, v2)), (3, (0, v3))] [] K H (qi K q)
set_option maxHeartbeats 4000000 in
set_option maxRecDepth 20000 in
theorem bX11_walkTo_0 {d : Nat} {K : Shp} {H : Mem} {q : Int → Mem → Prop} {v0 v1 v2 v3 : Int} (h : ((0 : Int) ≤ v0) ∧ (K[(v0 : Int).toNat]? = some (11, 8)) ∧ Ci mX11_isSection d [(2, v0), (0, v1)] K H (fun x4 H3 => ((¬ (x4 : Int) = 0 → Ci mX11_isNear d [(0, v2)] K H3 (fun x7 H6 => ((¬ (x7 : Int) = 0 → ((0 : Int) ≤ (H6 (v0 : Int).toNat 2)) ∧ ∃ n10 : Nat, (K[((H6 (v0 : Int).toNat 2) : Int).toNat]? = some (23, n10)) ∧ ((0 : Int) ≤ v1) ∧ ((v1 : Int) < n10) ∧ ((0 : Int) ≤ (H6 ((H6 (v0 : Int).toNat 2) : Int).toNat (v1 : Int).toNat)) ∧ (K[((H6 ((H6 (v0 : Int).toNat 2) : Int).toNat (v1 : Int).toNat) : Int).toNat]? = some (4, 18)) ∧ ((0 : Int) ≤ (H6 (v0 : Int).toNat 6)) ∧ (K[((H6 (v0 : Int).toNat 6) : Int).toNat]? = some (9, 6)) ∧ Cv mX9_arm d [(2, (H6 (v0 : Int).toNat 6)), (2, (H6 ((H6 (v0 : Int).toNat 2) : Int).toNat (v1 : Int).toNat)), (2, (H6 ((H6 ((H6 (v0 : Int).toNat 2) : Int).toNat (v1 : Int).toNat) : Int).toNat 9))] K H6 (fun H18 => ((0 : Int) ≤ (H18 (v0 : Int).toNat 6)) ∧ (K[((H18 (v0 : Int).toNat 6) : Int).toNat]? = some (9, 6)) ∧ Ci mX9_reaches d [(2, (H18 (v0 : Int).toNat 6)), (0, v2)] K H18 (fun x23 H22 => ((¬ (x23 : Int) = 0 → ((0 : Int) ≤ (H22 (v0 : Int).toNat 6)) ∧ (K[((H22 (v0 : Int).toNat 6) : Int).toNat]? = some (9, 6)) ∧ Cv mX9_fill d [(2, (H22 (v0 : Int).toNat 6)), (2, (H6 ((H6 (v0 : Int).toNat 2) : Int).toNat (v1 : Int).toNat)), (0, v2), (0, v3)] K H22 (fun H27 => q 0 H27)) ∧ ((x23 : Int) = 0 → q 4 H22))))) ∧ ((x7 : Int) = 0 → q 2 H6)))) ∧ ((x4 : Int) = 0 → q 1 H3)))) : FX11_walkTo_0 d K H q (v0) (v1) (v2) (v3) := by
  unfold FX11_walkTo_0
  refine r_aload_n 0 dX11_walkTo_0 rfl rfl ?_
  refine r_iload_n 1 dX11_walkTo_1 rfl rfl ?_
  obtain ⟨h1, h⟩ := h
  obtain ⟨h2, h⟩ := h
  refine r_invV (M := mX11_walkTo) (As := [(0, v1)]) (st := []) (X := v0) (mc := 0) (ms := 0) (fc := 0) (fs := 0) h ok_X11_isSection cls11 im_X11_isSection se_X11_isSection ml_RX11_69 dX11_walkTo_2 rfl h1 h2 (Nat.le_of_ble_eq_true rfl) rfl ?_
  rintro r K1 H3 ⟨rfl, x4, rfl, h⟩ -
  show Fr mX11_walkTo (d + 1) 0 0 none 5 [(0, (2, v0)), (1, (0, v1)), (2, (0, v2)), (3, (0, v3))] [(0, x4)] _ H3 _
  refine r_if_ne (tgt := 10) dX11_walkTo_5 (by decide) (fun c5 => ?_) (fun c5 => ?_)
  · replace h := h.1 c5
    refine r_iload_n 2 dX11_walkTo_10 rfl rfl ?_
    refine r_invS (M := mX11_walkTo) (As := [(0, v2)]) (st := []) (mc := 0) (ms := 0) (fc := 0) (fs := 0) h ok_X11_isNear sm_X11_isNear ml_RX11_150 dX11_walkTo_11 rfl (Nat.le_of_ble_eq_true rfl) rfl ?_
    rintro r K1 H6 ⟨rfl, x7, rfl, h⟩ -
    show Fr mX11_walkTo (d + 1) 0 0 none 14 [(0, (2, v0)), (1, (0, v1)), (2, (0, v2)), (3, (0, v3))] [(0, x7)] _ H6 _
    refine r_if_ne (tgt := 19) dX11_walkTo_14 (by decide) (fun c8 => ?_) (fun c8 => ?_)
    · replace h := h.1 c8
      refine r_aload_n 0 dX11_walkTo_19 rfl rfl ?_
      refine r_getf cls11 2 dX11_walkTo_20 (by decide) fl_RX11_22 rfl h1 h2 ?_
      refine r_iload_n 1 dX11_walkTo_23 rfl rfl ?_
      obtain ⟨h9, h⟩ := h
      obtain ⟨n10, h⟩ := h
      obtain ⟨h11, h⟩ := h
      obtain ⟨h12, h⟩ := h
      obtain ⟨h13, h⟩ := h
      refine r_aald 23 n10 (by decide) dX11_walkTo_24 h9 h11 h12 h13 ?_
      refine r_astore dX11_walkTo_25 (by decide) rfl ?_
      refine r_aload_n 1 dX11_walkTo_27 rfl rfl ?_
      refine r_getf cls11 6 dX11_walkTo_28 (by decide) fl_RX11_50 rfl h1 h2 ?_
      refine r_aload 0 dX11_walkTo_31 rfl ?_
      refine r_aload 0 dX11_walkTo_33 rfl ?_
      obtain ⟨h14, h⟩ := h
      obtain ⟨h15, h⟩ := h
      refine r_getf cls4 9 dX11_walkTo_35 (by decide) fl_RX11_113 rfl h14 h15 ?_
      obtain ⟨h16, h⟩ := h
      obtain ⟨h17, h⟩ := h
      refine r_invV (M := mX11_walkTo) (As := [(2, (H6 ((H6 (v0 : Int).toNat 2) : Int).toNat (v1 : Int).toNat)), (2, (H6 ((H6 ((H6 (v0 : Int).toNat 2) : Int).toNat (v1 : Int).toNat) : Int).toNat 9))]) (st := []) (X := (H6 (v0 : Int).toNat 6)) (mc := 0) (ms := 0) (fc := 0) (fs := 0) h ok_X9_arm cls9 im_X9_arm se_X9_arm ml_RX11_250 dX11_walkTo_38 rfl h16 h17 (Nat.le_of_ble_eq_true rfl) rfl ?_
      rintro r K1 H18 ⟨rfl, rfl, h⟩ -
      show Fr mX11_walkTo (d + 1) 0 0 none 41 [(4, (2, (H6 ((H6 (v0 : Int).toNat 2) : Int).toNat (v1 : Int).toNat))), (0, (2, v0)), (1, (0, v1)), (2, (0, v2)), (3, (0, v3))] [] _ H18 _
      refine r_aload_n 1 dX11_walkTo_41 rfl rfl ?_
      refine r_getf cls11 6 dX11_walkTo_42 (by decide) fl_RX11_50 rfl h1 h2 ?_
      refine r_iload_n 3 dX11_walkTo_45 rfl rfl ?_
      obtain ⟨h20, h⟩ := h
      obtain ⟨h21, h⟩ := h
      refine r_invV (M := mX11_walkTo) (As := [(0, v2)]) (st := []) (X := (H18 (v0 : Int).toNat 6)) (mc := 0) (ms := 0) (fc := 0) (fs := 0) h ok_X9_reaches cls9 im_X9_reaches se_X9_reaches ml_RX11_254 dX11_walkTo_46 rfl h20 h21 (Nat.le_of_ble_eq_true rfl) rfl ?_
      rintro r K1 H22 ⟨rfl, x23, rfl, h⟩ -
      show Fr mX11_walkTo (d + 1) 0 0 none 49 [(4, (2, (H6 ((H6 (v0 : Int).toNat 2) : Int).toNat (v1 : Int).toNat))), (0, (2, v0)), (1, (0, v1)), (2, (0, v2)), (3, (0, v3))] [(0, x23)] _ H22 _
      refine r_if_ne (tgt := 54) dX11_walkTo_49 (by decide) (fun c24 => ?_) (fun c24 => ?_)
      · replace h := h.1 c24
        refine r_aload_n 1 dX11_walkTo_54 rfl rfl ?_
        refine r_getf cls11 6 dX11_walkTo_55 (by decide) fl_RX11_50 rfl h1 h2 ?_
        refine r_aload 0 dX11_walkTo_58 rfl ?_
        refine r_iload_n 3 dX11_walkTo_60 rfl rfl ?_
        refine r_iload_n 4 dX11_walkTo_61 rfl rfl ?_
        obtain ⟨h25, h⟩ := h
        obtain ⟨h26, h⟩ := h
        refine r_invV (M := mX11_walkTo) (As := [(2, (H6 ((H6 (v0 : Int).toNat 2) : Int).toNat (v1 : Int).toNat)), (0, v2), (0, v3)]) (st := []) (X := (H22 (v0 : Int).toNat 6)) (mc := 0) (ms := 0) (fc := 0) (fs := 0) h ok_X9_fill cls9 im_X9_fill se_X9_fill ml_RX11_257 dX11_walkTo_62 rfl h25 h26 (Nat.le_of_ble_eq_true rfl) rfl ?_
        rintro r K1 H27 ⟨rfl, rfl, h⟩ -
        show Fr mX11_walkTo (d + 1) 0 0 none 65 [(4, (2, (H6 ((H6 (v0 : Int).toNat 2) : Int).toNat (v1 : Int).toNat))), (0, (2, v0)), (1, (0, v1)), (2, (0, v2)), (3, (0, v3))] [] _ H27 _
        refine r_iconst dX11_walkTo_65 (by decide) (by decide) ?_
        exact r_iret dX11_walkTo_66 rfl ⟨rfl, _, rfl, h⟩
      · replace h := h.2 c24
        refine r_iconst dX11_walkTo_52 (by decide) (by decide) ?_
        exact r_iret dX11_walkTo_53 rfl ⟨rfl, _, rfl, h⟩
    · replace h := h.2 c8
      refine r_iconst dX11_walkTo_17 (by decide) (by decide) ?_
      exact r_iret dX11_walkTo_18 rfl ⟨rfl, _, rfl, h⟩
  · replace h := h.2 c5
    refine r_iconst dX11_walkTo_8 (by decide) (by decide) ?_
    exact r_iret dX11_walkTo_9 rfl ⟨rfl, _, rfl, h⟩
set_option maxHeartbeats 4000000 in
set_option maxRecDepth 20000 in
theorem eX11_walkTo {d : Nat} {K : Shp} {H : Mem} {q : Int → Mem → Prop} {v0 v1 v2 v3 : Int} (h : inI v1 → inI v2 → inI v3 → Rng K H → FX11_walkTo_0 d K H q v0 v1 v2 v3) : Ci mX11_walkTo (d + 1) [(2, v0), (0, v1), (0, v2), (0, v3)] K H q := Call.of rfl (Nat.le_of_ble_eq_true rfl) (fun o r => h (o (0, v1) (by simp)) (o (0, v2) (by simp)) (o (0, v3) (by simp)) r)
def FX11_bears_0 (d : Nat) (K : Shp) (H : Mem) (q : Int → Mem → Prop) (v0 : Int) (v1 : Int) (v2 : Int) (v3 : Int) : Prop := Fr mX11_bears (d + 1) 0 0 none 0 [(0, (2, v0)), (1, (2, v1)), (2, (0, v2)), (3, (0, v3))] [] K H (qi K q)
set_option maxHeartbeats 4000000 in
set_option maxRecDepth 20000 in
theorem bX11_bears_0 {d : Nat} {K : Shp} {H : Mem} {q : Int → Mem → Prop} {v0 v1 v2 v3 : Int} (h : ((0 : Int) ≤ v0) ∧ (K[(v0 : Int).toNat]? = some (11, 8)) ∧ ((0 : Int) ≤ v1) ∧ (K[(v1 : Int).toNat]? = some (4, 18)) ∧ ((0 : Int) ≤ (H (v0 : Int).toNat 6)) ∧ (K[((H (v0 : Int).toNat 6) : Int).toNat]? = some (9, 6)) ∧ Cv mX9_arm d [(2, (H (v0 : Int).toNat 6)), (2, v1), (2, (H (v1 : Int).toNat 9))] K H (fun H7 => ((0 : Int) ≤ (H7 (v0 : Int).toNat 6)) ∧ (K[((H7 (v0 : Int).toNat 6) : Int).toNat]? = some (9, 6)) ∧ Ci mX9_bearsOn d [(2, (H7 (v0 : Int).toNat 6)), (2, v1), (0, v2), (0, v3), (0, 1)] K H7 (fun x12 H11 => (((x12 : Int) = 0 → q 0 H11) ∧ (¬ (x12 : Int) = 0 → ((0 : Int) ≤ (H11 (v0 : Int).toNat 6)) ∧ (K[((H11 (v0 : Int).toNat 6) : Int).toNat]? = some (9, 6)) ∧ Ci mX9_bearsOn d [(2, (H11 (v0 : Int).toNat 6)), (2, v1), (0, v2), (0, v3), (0, 0)] K H11 (fun x17 H16 => (((x17 : Int) = 0 → q 0 H16) ∧ (¬ (x17 : Int) = 0 → q 1 H16)))))))) : FX11_bears_0 d K H q (v0) (v1) (v2) (v3) := by
  unfold FX11_bears_0
  refine r_aload_n 0 dX11_bears_0 rfl rfl ?_
  obtain ⟨h1, h⟩ := h
  obtain ⟨h2, h⟩ := h
  refine r_getf cls11 6 dX11_bears_1 (by decide) fl_RX11_50 rfl h1 h2 ?_
  refine r_aload_n 1 dX11_bears_4 rfl rfl ?_
  refine r_aload_n 1 dX11_bears_5 rfl rfl ?_
  obtain ⟨h3, h⟩ := h
  obtain ⟨h4, h⟩ := h
  refine r_getf cls4 9 dX11_bears_6 (by decide) fl_RX11_113 rfl h3 h4 ?_
  obtain ⟨h5, h⟩ := h
  obtain ⟨h6, h⟩ := h
  refine r_invV (M := mX11_bears) (As := [(2, v1), (2, (H (v1 : Int).toNat 9))]) (st := []) (X := (H (v0 : Int).toNat 6)) (mc := 0) (ms := 0) (fc := 0) (fs := 0) h ok_X9_arm cls9 im_X9_arm se_X9_arm ml_RX11_250 dX11_bears_9 rfl h5 h6 (Nat.le_of_ble_eq_true rfl) rfl ?_
  rintro r K1 H7 ⟨rfl, rfl, h⟩ -
  show Fr mX11_bears (d + 1) 0 0 none 12 [(0, (2, v0)), (1, (2, v1)), (2, (0, v2)), (3, (0, v3))] [] _ H7 _
  refine r_aload_n 0 dX11_bears_12 rfl rfl ?_
  refine r_getf cls11 6 dX11_bears_13 (by decide) fl_RX11_50 rfl h1 h2 ?_
  refine r_aload_n 1 dX11_bears_16 rfl rfl ?_
  refine r_iload_n 2 dX11_bears_17 rfl rfl ?_
  refine r_iload_n 3 dX11_bears_18 rfl rfl ?_
  refine r_iconst dX11_bears_19 (by decide) (by decide) ?_
  obtain ⟨h9, h⟩ := h
  obtain ⟨h10, h⟩ := h
  refine r_invV (M := mX11_bears) (As := [(2, v1), (0, v2), (0, v3), (0, 1)]) (st := []) (X := (H7 (v0 : Int).toNat 6)) (mc := 0) (ms := 0) (fc := 0) (fs := 0) h ok_X9_bearsOn cls9 im_X9_bearsOn se_X9_bearsOn ml_RX11_261 dX11_bears_20 rfl h9 h10 (Nat.le_of_ble_eq_true rfl) rfl ?_
  rintro r K1 H11 ⟨rfl, x12, rfl, h⟩ -
  show Fr mX11_bears (d + 1) 0 0 none 23 [(0, (2, v0)), (1, (2, v1)), (2, (0, v2)), (3, (0, v3))] [(0, x12)] _ H11 _
  refine r_if_eq (tgt := 44) dX11_bears_23 (by decide) (fun c13 => ?_) (fun c13 => ?_)
  · replace h := h.1 c13
    refine r_iconst dX11_bears_44 (by decide) (by decide) ?_
    exact r_zret dX11_bears_45 rfl (Or.inl rfl) ⟨rfl, _, rfl, h⟩
  · replace h := h.2 c13
    refine r_aload_n 0 dX11_bears_26 rfl rfl ?_
    refine r_getf cls11 6 dX11_bears_27 (by decide) fl_RX11_50 rfl h1 h2 ?_
    refine r_aload_n 1 dX11_bears_30 rfl rfl ?_
    refine r_iload_n 2 dX11_bears_31 rfl rfl ?_
    refine r_iload_n 3 dX11_bears_32 rfl rfl ?_
    refine r_iconst dX11_bears_33 (by decide) (by decide) ?_
    obtain ⟨h14, h⟩ := h
    obtain ⟨h15, h⟩ := h
    refine r_invV (M := mX11_bears) (As := [(2, v1), (0, v2), (0, v3), (0, 0)]) (st := []) (X := (H11 (v0 : Int).toNat 6)) (mc := 0) (ms := 0) (fc := 0) (fs := 0) h ok_X9_bearsOn cls9 im_X9_bearsOn se_X9_bearsOn ml_RX11_261 dX11_bears_34 rfl h14 h15 (Nat.le_of_ble_eq_true rfl) rfl ?_
    rintro r K1 H16 ⟨rfl, x17, rfl, h⟩ -
    show Fr mX11_bears (d + 1) 0 0 none 37 [(0, (2, v0)), (1, (2, v1)), (2, (0, v2)), (3, (0, v3))] [(0, x17)] _ H16 _
    refine r_if_eq (tgt := 44) dX11_bears_37 (by decide) (fun c18 => ?_) (fun c18 => ?_)
    · replace h := h.1 c18
      refine r_iconst dX11_bears_44 (by decide) (by decide) ?_
      exact r_zret dX11_bears_45 rfl (Or.inl rfl) ⟨rfl, _, rfl, h⟩
    · replace h := h.2 c18
      refine r_iconst dX11_bears_40 (by decide) (by decide) ?_
      refine r_goto (tgt := 45) dX11_bears_41 (by decide) ?_
      exact r_zret dX11_bears_45 rfl (Or.inr rfl) ⟨rfl, _, rfl, h⟩
set_option maxHeartbeats 4000000 in
set_option maxRecDepth 20000 in
theorem eX11_bears {d : Nat} {K : Shp} {H : Mem} {q : Int → Mem → Prop} {v0 v1 v2 v3 : Int} (h : inI v2 → inI v3 → Rng K H → FX11_bears_0 d K H q v0 v1 v2 v3) : Ci mX11_bears (d + 1) [(2, v0), (2, v1), (0, v2), (0, v3)] K H q := Call.of rfl (Nat.le_of_ble_eq_true rfl) (fun o r => h (o (0, v2) (by simp)) (o (0, v3) (by simp)) r)
def FX11_forgetBests_0 (d : Nat) (K : Shp) (H : Mem) (q : Mem → Prop) (v0 : Int) : Prop := Fr mX11_forgetBests d 0 0 none 0 [(0, (2, v0))] [] K H (qv K q)
def FX11_forgetBests_2 (d : Nat) (K : Shp) (H : Mem) (q : Mem → Prop) (v0 : Int) (v1 : Int) : Prop := Fr mX11_forgetBests d 0 0 none 2 [(0, (2, v0)), (1, (0, v1))] [] K H (qv K q)
set_option maxHeartbeats 4000000 in
set_option maxRecDepth 20000 in
theorem bX11_forgetBests_0 {d : Nat} {K : Shp} {H : Mem} {q : Mem → Prop} {v0 : Int} (h : FX11_forgetBests_2 d K H q (v0) (0)) : FX11_forgetBests_0 d K H q (v0) := by
  unfold FX11_forgetBests_0
  refine r_iconst dX11_forgetBests_0 (by decide) (by decide) ?_
  refine r_istore_n dX11_forgetBests_1 rfl (by decide) rfl ?_
  refine Fr.fewer [1, 0] rfl ?_
  exact h
set_option maxHeartbeats 4000000 in
set_option maxRecDepth 20000 in
theorem bX11_forgetBests_2 {d : Nat} {K : Shp} {H : Mem} {q : Mem → Prop} {v0 v1 : Int} (h : ((¬ (v1 : Int) < 4 → q H) ∧ ((v1 : Int) < 4 → ((0 : Int) ≤ v0) ∧ (K[(v0 : Int).toNat]? = some (11, 8)) ∧ ((0 : Int) ≤ (H (v0 : Int).toNat 2)) ∧ ∃ n5 : Nat, (K[((H (v0 : Int).toNat 2) : Int).toNat]? = some (23, n5)) ∧ ((0 : Int) ≤ v1) ∧ ((v1 : Int) < n5) ∧ ((0 : Int) ≤ (H ((H (v0 : Int).toNat 2) : Int).toNat (v1 : Int).toNat)) ∧ (K[((H ((H (v0 : Int).toNat 2) : Int).toNat (v1 : Int).toNat) : Int).toNat]? = some (4, 18)) ∧ ∀ H11 : Mem, H11 = upA H ((H ((H (v0 : Int).toNat 2) : Int).toNat (v1 : Int).toNat) : Int).toNat (up1 (H ((H ((H (v0 : Int).toNat 2) : Int).toNat (v1 : Int).toNat) : Int).toNat) 14 0) → (inI (v1 + 1)) ∧ FX11_forgetBests_2 d K H11 q (v0) ((v1 + 1))))) : FX11_forgetBests_2 d K H q (v0) (v1) := by
  unfold FX11_forgetBests_2
  refine r_iload_n 1 dX11_forgetBests_2 rfl rfl ?_
  refine r_iconst dX11_forgetBests_3 (by decide) (by decide) ?_
  refine r_icmp_ge (tgt := 23) dX11_forgetBests_4 (by decide) (fun c1 => ?_) (fun c1 => ?_)
  · replace h := h.1 c1
    exact r_vret dX11_forgetBests_23 rfl ⟨rfl, rfl, h⟩
  · replace h := h.2 c1
    refine r_aload_n 0 dX11_forgetBests_7 rfl rfl ?_
    obtain ⟨h2, h⟩ := h
    obtain ⟨h3, h⟩ := h
    refine r_getf cls11 2 dX11_forgetBests_8 (by decide) fl_RX11_22 rfl h2 h3 ?_
    refine r_iload_n 1 dX11_forgetBests_11 rfl rfl ?_
    obtain ⟨h4, h⟩ := h
    obtain ⟨n5, h⟩ := h
    obtain ⟨h6, h⟩ := h
    obtain ⟨h7, h⟩ := h
    obtain ⟨h8, h⟩ := h
    refine r_aald 23 n5 (by decide) dX11_forgetBests_12 h4 h6 h7 h8 ?_
    refine r_iconst dX11_forgetBests_13 (by decide) (by decide) ?_
    obtain ⟨h9, h⟩ := h
    obtain ⟨h10, h⟩ := h
    refine r_putf cls4 14 dX11_forgetBests_14 (by decide) rfl fl_RX11_265 rfl h9 h10 (fun _ => Or.inl rfl) ?_
    replace h := h _ rfl
    generalize upA H ((H ((H (v0 : Int).toNat 2) : Int).toNat (v1 : Int).toNat) : Int).toNat (up1 (H ((H ((H (v0 : Int).toNat 2) : Int).toNat (v1 : Int).toNat) : Int).toNat) 14 0) = H11 at h ⊢
    obtain ⟨h12, h⟩ := h
    refine r_iinc 1 dX11_forgetBests_17 (by decide) rfl h12 rfl ?_
    refine r_goto (tgt := 2) dX11_forgetBests_20 (by decide) ?_
    refine Fr.fewer [1, 0] rfl ?_
    exact h
set_option maxHeartbeats 4000000 in
set_option maxRecDepth 20000 in
theorem eX11_forgetBests {d : Nat} {K : Shp} {H : Mem} {q : Mem → Prop} {v0 : Int} (h : Rng K H → FX11_forgetBests_0 d K H q v0) : Cv mX11_forgetBests d [(2, v0)] K H q := Call.of rfl (Nat.le_of_ble_eq_true rfl) (fun o r => h  r)
def FX11_carryOut_0 (d : Nat) (K : Shp) (H : Mem) (q : Int → Mem → Prop) (v0 : Int) (v1 : Int) : Prop := Fr mX11_carryOut (d + 1) 0 0 none 0 [(0, (2, v0)), (1, (2, v1))] [] K H (qi K q)
def FX11_carryOut_4 (d : Nat) (K : Shp) (H : Mem) (q : Int → Mem → Prop) (v0 : Int) (v1 : Int) (v2 : Int) (v3 : Int) : Prop := Fr mX11_carryOut (d + 1) 0 0 none 4 [(0, (2, v0)), (1, (2, v1)), (2, (0, v2)), (3, (0, v3))] [] K H (qi K q)
set_option maxHeartbeats 4000000 in
set_option maxRecDepth 20000 in
theorem bX11_carryOut_0 {d : Nat} {K : Shp} {H : Mem} {q : Int → Mem → Prop} {v0 v1 : Int} (h : FX11_carryOut_4 d K H q (v0) (v1) (0) (0)) : FX11_carryOut_0 d K H q (v0) (v1) := by
  unfold FX11_carryOut_0
  refine r_iconst dX11_carryOut_0 (by decide) (by decide) ?_
  refine r_istore_n dX11_carryOut_1 rfl (by decide) rfl ?_
  refine r_iconst dX11_carryOut_2 (by decide) (by decide) ?_
  refine r_istore_n dX11_carryOut_3 rfl (by decide) rfl ?_
  refine Fr.fewer [2, 3, 1, 0] rfl ?_
  exact h
set_option maxHeartbeats 4000000 in
set_option maxRecDepth 20000 in
theorem bX11_carryOut_4 {d : Nat} {K : Shp} {H : Mem} {q : Int → Mem → Prop} {v0 v1 v2 v3 : Int} (h : ((0 : Int) ≤ v1) ∧ (K[(v1 : Int).toNat]? = some (4, 18)) ∧ ((¬ (v3 : Int) < (H (v1 : Int).toNat 7) → q v2 H) ∧ ((v3 : Int) < (H (v1 : Int).toNat 7) → ((0 : Int) ≤ v0) ∧ (K[(v0 : Int).toNat]? = some (11, 8)) ∧ ((0 : Int) ≤ (H (v1 : Int).toNat 17)) ∧ ∃ n7 : Nat, (K[((H (v1 : Int).toNat 17) : Int).toNat]? = some (20, n7)) ∧ ((0 : Int) ≤ v3) ∧ ((v3 : Int) < n7) ∧ ((0 : Int) ≤ (H (v0 : Int).toNat 4)) ∧ (K[((H (v0 : Int).toNat 4) : Int).toNat]? = some (6, 3)) ∧ Ci mX6_strengthOf d [(2, (H (v0 : Int).toNat 4)), (0, (H ((H (v1 : Int).toNat 17) : Int).toNat (v3 : Int).toNat))] K H (fun x14 H13 => ((0 : Int) ≤ (H13 (v1 : Int).toNat 9)) ∧ ∃ n16 : Nat, (K[((H13 (v1 : Int).toNat 9) : Int).toNat]? = some (20, n16)) ∧ ((v3 : Int) < n16) ∧ ((((H13 ((H13 (v1 : Int).toNat 9) : Int).toNat (v3 : Int).toNat) : Int) = x14 → (inI (v3 + 1)) ∧ FX11_carryOut_4 d K H13 q (v0) (v1) (v2) ((v3 + 1))) ∧ (¬ ((H13 ((H13 (v1 : Int).toNat 9) : Int).toNat (v3 : Int).toNat) : Int) = x14 → ∀ H21 : Mem, H21 = upA H13 ((H13 (v1 : Int).toNat 9) : Int).toNat (up1 (H13 ((H13 (v1 : Int).toNat 9) : Int).toNat) (v3 : Int).toNat x14) → (inI (v2 + 1)) ∧ (inI (v3 + 1)) ∧ FX11_carryOut_4 d K H21 q (v0) (v1) ((v2 + 1)) ((v3 + 1)))))))) : FX11_carryOut_4 d K H q (v0) (v1) (v2) (v3) := by
  unfold FX11_carryOut_4
  refine r_iload_n 3 dX11_carryOut_4 rfl rfl ?_
  refine r_aload_n 1 dX11_carryOut_5 rfl rfl ?_
  obtain ⟨h1, h⟩ := h
  obtain ⟨h2, h⟩ := h
  refine r_getf cls4 7 dX11_carryOut_6 (by decide) fl_RX11_102 rfl h1 h2 ?_
  refine r_icmp_ge (tgt := 55) dX11_carryOut_9 (by decide) (fun c3 => ?_) (fun c3 => ?_)
  · replace h := h.1 c3
    refine r_iload_n 2 dX11_carryOut_55 rfl rfl ?_
    exact r_iret dX11_carryOut_56 rfl ⟨rfl, _, rfl, h⟩
  · replace h := h.2 c3
    refine r_aload_n 0 dX11_carryOut_12 rfl rfl ?_
    obtain ⟨h4, h⟩ := h
    obtain ⟨h5, h⟩ := h
    refine r_getf cls11 4 dX11_carryOut_13 (by decide) fl_RX11_36 rfl h4 h5 ?_
    refine r_aload_n 1 dX11_carryOut_16 rfl rfl ?_
    refine r_getf cls4 17 dX11_carryOut_17 (by decide) fl_RX11_181 rfl h1 h2 ?_
    refine r_iload_n 3 dX11_carryOut_20 rfl rfl ?_
    obtain ⟨h6, h⟩ := h
    obtain ⟨n7, h⟩ := h
    obtain ⟨h8, h⟩ := h
    obtain ⟨h9, h⟩ := h
    obtain ⟨h10, h⟩ := h
    refine r_iald n7 dX11_carryOut_21 h6 h8 h9 h10 ?_
    obtain ⟨h11, h⟩ := h
    obtain ⟨h12, h⟩ := h
    refine r_invV (M := mX11_carryOut) (As := [(0, (H ((H (v1 : Int).toNat 17) : Int).toNat (v3 : Int).toNat))]) (st := []) (X := (H (v0 : Int).toNat 4)) (mc := 0) (ms := 0) (fc := 0) (fs := 0) h ok_X6_strengthOf cls6 im_X6_strengthOf se_X6_strengthOf ml_RX11_269 dX11_carryOut_22 rfl h11 h12 (Nat.le_of_ble_eq_true rfl) rfl ?_
    rintro r K1 H13 ⟨rfl, x14, rfl, h⟩ -
    show Fr mX11_carryOut (d + 1) 0 0 none 25 [(0, (2, v0)), (1, (2, v1)), (2, (0, v2)), (3, (0, v3))] [(0, x14)] _ H13 _
    refine r_istore dX11_carryOut_25 (by decide) rfl ?_
    refine r_aload_n 2 dX11_carryOut_27 rfl rfl ?_
    refine r_getf cls4 9 dX11_carryOut_28 (by decide) fl_RX11_113 rfl h1 h2 ?_
    refine r_iload_n 4 dX11_carryOut_31 rfl rfl ?_
    obtain ⟨h15, h⟩ := h
    obtain ⟨n16, h⟩ := h
    obtain ⟨h17, h⟩ := h
    obtain ⟨h18, h⟩ := h
    refine r_iald n16 dX11_carryOut_32 h15 h17 h9 h18 ?_
    refine r_iload 0 dX11_carryOut_33 rfl ?_
    refine r_icmp_eq (tgt := 49) dX11_carryOut_35 (by decide) (fun c19 => ?_) (fun c19 => ?_)
    · replace h := h.1 c19
      obtain ⟨h20, h⟩ := h
      refine r_iinc 4 dX11_carryOut_49 (by decide) rfl h20 rfl ?_
      refine r_goto (tgt := 4) dX11_carryOut_52 (by decide) ?_
      refine Fr.fewer [2, 3, 4, 0] rfl ?_
      exact h
    · replace h := h.2 c19
      refine r_aload_n 2 dX11_carryOut_38 rfl rfl ?_
      refine r_getf cls4 9 dX11_carryOut_39 (by decide) fl_RX11_113 rfl h1 h2 ?_
      refine r_iload_n 4 dX11_carryOut_42 rfl rfl ?_
      refine r_iload 0 dX11_carryOut_43 rfl ?_
      refine r_iast n16 dX11_carryOut_45 h15 h17 h9 h18 ?_
      replace h := h _ rfl
      generalize upA H13 ((H13 (v1 : Int).toNat 9) : Int).toNat (up1 (H13 ((H13 (v1 : Int).toNat 9) : Int).toNat) (v3 : Int).toNat x14) = H21 at h ⊢
      obtain ⟨h22, h⟩ := h
      refine r_iinc 3 dX11_carryOut_46 (by decide) rfl h22 rfl ?_
      obtain ⟨h23, h⟩ := h
      refine r_iinc 4 dX11_carryOut_49 (by decide) rfl h23 rfl ?_
      refine r_goto (tgt := 4) dX11_carryOut_52 (by decide) ?_
      refine Fr.fewer [3, 4, 1, 0] rfl ?_
      exact h
set_option maxHeartbeats 4000000 in
set_option maxRecDepth 20000 in
theorem eX11_carryOut {d : Nat} {K : Shp} {H : Mem} {q : Int → Mem → Prop} {v0 v1 : Int} (h : Rng K H → FX11_carryOut_0 d K H q v0 v1) : Ci mX11_carryOut (d + 1) [(2, v0), (2, v1)] K H q := Call.of rfl (Nat.le_of_ble_eq_true rfl) (fun o r => h  r)
