/-! printed by gen/emit.py: what a walk from each cut point asks -/
def FX1_findBest_0 (d : Nat) (K : Shp) (H : Mem) (q : Int → Mem → Prop) (v0 : Int) (v1 : Int) (v2 : Int) (v3 : Int) : Prop := Fr mX1_findBest (d + 1) 0 0 none 0 [(0, (2, v0)), (1, (2, v1)), (2, (2, v2)), (3, (2, v3))] [] K H (qi K q)
set_option maxHeartbeats 4000000 in
set_option maxRecDepth 20000 in
theorem bX1_findBest_0 {d : Nat} {K : Shp} {H : Mem} {q : Int → Mem → Prop} {v0 v1 v2 v3 : Int} (h : ((0 : Int) ≤ v1) ∧ (K[(v1 : Int).toNat]? = some (4, 18)) ∧ ((((H (v1 : Int).toNat 14) : Int) = 0 → ((0 : Int) ≤ v0) ∧ (K[(v0 : Int).toNat]? = some (1, 8)) ∧ Cv mJ7_fill_53178 d [(2, (H (v0 : Int).toNat 6)), (0, 0)] K H (fun H6 => Cv mX1_listAsks d [(2, v0), (2, v1), (2, v2)] K H6 (fun H8 => ((0 : Int) ≤ v3) ∧ (K[(v3 : Int).toNat]? = some (6, 3)) ∧ Ci mX6_strongest d [(2, v3)] K H8 (fun x13 H12 => ∀ H14 : Mem, H14 = upA H12 (v0 : Int).toNat (up1 (H12 (v0 : Int).toNat) 5 x13) → Cv mJ7_fill_53178 d [(2, (H14 (v0 : Int).toNat 6)), (0, (H14 (v0 : Int).toNat 5))] K H14 (fun H15 => ∀ H17 : Mem, H17 = upA H15 (v1 : Int).toNat (up1 (H15 (v1 : Int).toNat) 14 1) → ∀ H18 : Mem, H18 = upA H17 (v1 : Int).toNat (up1 (H17 (v1 : Int).toNat) 15 0) → ∀ H19 : Mem, H19 = upA H18 (v1 : Int).toNat (up1 (H18 (v1 : Int).toNat) 16 60001) → Ci mX1_bearsAll d [(2, v0), (2, v1)] K H19 (fun x21 H20 => (((x21 : Int) = 0 → (((H20 (v1 : Int).toNat 15) : Int) = 0 ∨ ((H20 (v1 : Int).toNat 15) : Int) = 1) ∧ q (H20 (v1 : Int).toNat 15) H20) ∧ (¬ (x21 : Int) = 0 → Cv mX1_choose d [(2, v0), (2, v1), (2, v3), (0, 0), (0, 0)] K H20 (fun H24 => (((H24 (v1 : Int).toNat 15) : Int) = 0 ∨ ((H24 (v1 : Int).toNat 15) : Int) = 1) ∧ q (H24 (v1 : Int).toNat 15) H24))))))))) ∧ (¬ ((H (v1 : Int).toNat 14) : Int) = 0 → (((H (v1 : Int).toNat 15) : Int) = 0 ∨ ((H (v1 : Int).toNat 15) : Int) = 1) ∧ q (H (v1 : Int).toNat 15) H))) : FX1_findBest_0 d K H q (v0) (v1) (v2) (v3) := by
  unfold FX1_findBest_0
  refine r_aload_n 1 dX1_findBest_0 rfl rfl ?_
  obtain ⟨h1, h⟩ := h
  obtain ⟨h2, h⟩ := h
  refine r_getf cls4 14 dX1_findBest_1 (by decide) fl_RX1_42 rfl h1 h2 ?_
  refine r_if_eq (tgt := 12) dX1_findBest_4 (by decide) (fun c3 => ?_) (fun c3 => ?_)
  · replace h := h.1 c3
    refine r_aload_n 0 dX1_findBest_12 rfl rfl ?_
    obtain ⟨h4, h⟩ := h
    obtain ⟨h5, h⟩ := h
    refine r_getf cls1 6 dX1_findBest_13 (by decide) fl_RX1_36 rfl h4 h5 ?_
    refine r_iconst dX1_findBest_16 (by decide) (by decide) ?_
    refine r_invS (M := mX1_findBest) (As := [(2, (H (v0 : Int).toNat 6)), (0, 0)]) (st := []) (mc := 0) (ms := 0) (fc := 0) (fs := 0) h ok_J7_fill_53178 sm_J7_fill_53178 ml_RX1_51 dX1_findBest_17 rfl (Nat.le_of_ble_eq_true rfl) rfl ?_
    rintro r K1 H6 ⟨rfl, rfl, h⟩ -
    show Fr mX1_findBest (d + 1) 0 0 none 20 [(0, (2, v0)), (1, (2, v1)), (2, (2, v2)), (3, (2, v3))] [] _ H6 _
    refine r_aload_n 0 dX1_findBest_20 rfl rfl ?_
    refine r_aload_n 1 dX1_findBest_21 rfl rfl ?_
    refine r_aload_n 2 dX1_findBest_22 rfl rfl ?_
    refine r_invV (M := mX1_findBest) (As := [(2, v1), (2, v2)]) (st := []) (X := v0) (mc := 0) (ms := 0) (fc := 0) (fs := 0) h ok_X1_listAsks cls1 im_X1_listAsks se_X1_listAsks ml_RX1_57 dX1_findBest_23 rfl h4 h5 (Nat.le_of_ble_eq_true rfl) rfl ?_
    rintro r K1 H8 ⟨rfl, rfl, h⟩ -
    show Fr mX1_findBest (d + 1) 0 0 none 26 [(0, (2, v0)), (1, (2, v1)), (2, (2, v2)), (3, (2, v3))] [] _ H8 _
    refine r_aload_n 0 dX1_findBest_26 rfl rfl ?_
    refine r_aload_n 3 dX1_findBest_27 rfl rfl ?_
    obtain ⟨h10, h⟩ := h
    obtain ⟨h11, h⟩ := h
    refine r_invV (M := mX1_findBest) (As := []) (st := [(2, v0)]) (X := v3) (mc := 0) (ms := 0) (fc := 0) (fs := 0) h ok_X6_strongest cls6 im_X6_strongest se_X6_strongest ml_RX1_61 dX1_findBest_28 rfl h10 h11 (Nat.le_of_ble_eq_true rfl) rfl ?_
    rintro r K1 H12 ⟨rfl, x13, rfl, h⟩ -
    show Fr mX1_findBest (d + 1) 0 0 none 31 [(0, (2, v0)), (1, (2, v1)), (2, (2, v2)), (3, (2, v3))] [(0, x13), (2, v0)] _ H12 _
    refine r_putf cls1 5 dX1_findBest_31 (by decide) rfl fl_RX1_33 rfl h4 h5 (fun o => o) ?_
    replace h := h _ rfl
    generalize upA H12 (v0 : Int).toNat (up1 (H12 (v0 : Int).toNat) 5 x13) = H14 at h ⊢
    refine r_aload_n 0 dX1_findBest_34 rfl rfl ?_
    refine r_getf cls1 6 dX1_findBest_35 (by decide) fl_RX1_36 rfl h4 h5 ?_
    refine r_aload_n 0 dX1_findBest_38 rfl rfl ?_
    refine r_getf cls1 5 dX1_findBest_39 (by decide) fl_RX1_33 rfl h4 h5 ?_
    refine r_invS (M := mX1_findBest) (As := [(2, (H14 (v0 : Int).toNat 6)), (0, (H14 (v0 : Int).toNat 5))]) (st := []) (mc := 0) (ms := 0) (fc := 0) (fs := 0) h ok_J7_fill_53178 sm_J7_fill_53178 ml_RX1_51 dX1_findBest_42 rfl (Nat.le_of_ble_eq_true rfl) rfl ?_
    rintro r K1 H15 ⟨rfl, rfl, h⟩ -
    show Fr mX1_findBest (d + 1) 0 0 none 45 [(0, (2, v0)), (1, (2, v1)), (2, (2, v2)), (3, (2, v3))] [] _ H15 _
    refine r_aload_n 1 dX1_findBest_45 rfl rfl ?_
    refine r_iconst dX1_findBest_46 (by decide) (by decide) ?_
    refine r_putf cls4 14 dX1_findBest_47 (by decide) rfl fl_RX1_42 rfl h1 h2 (fun _ => Or.inr rfl) ?_
    replace h := h _ rfl
    generalize upA H15 (v1 : Int).toNat (up1 (H15 (v1 : Int).toNat) 14 1) = H17 at h ⊢
    refine r_aload_n 1 dX1_findBest_50 rfl rfl ?_
    refine r_iconst dX1_findBest_51 (by decide) (by decide) ?_
    refine r_putf cls4 15 dX1_findBest_52 (by decide) rfl fl_RX1_48 rfl h1 h2 (fun _ => Or.inl rfl) ?_
    replace h := h _ rfl
    generalize upA H17 (v1 : Int).toNat (up1 (H17 (v1 : Int).toNat) 15 0) = H18 at h ⊢
    refine r_aload_n 1 dX1_findBest_55 rfl rfl ?_
    refine r_ldc (x := 60001) dX1_findBest_56 kc_RX1_66 (by decide) (by decide) ?_
    refine r_putf cls4 16 dX1_findBest_58 (by decide) rfl fl_RX1_67 rfl h1 h2 (fun o => o) ?_
    replace h := h _ rfl
    generalize upA H18 (v1 : Int).toNat (up1 (H18 (v1 : Int).toNat) 16 60001) = H19 at h ⊢
    refine r_aload_n 0 dX1_findBest_61 rfl rfl ?_
    refine r_aload_n 1 dX1_findBest_62 rfl rfl ?_
    refine r_invV (M := mX1_findBest) (As := [(2, v1)]) (st := []) (X := v0) (mc := 0) (ms := 0) (fc := 0) (fs := 0) h ok_X1_bearsAll cls1 im_X1_bearsAll se_X1_bearsAll ml_RX1_70 dX1_findBest_63 rfl h4 h5 (Nat.le_of_ble_eq_true rfl) rfl ?_
    rintro r K1 H20 ⟨rfl, x21, rfl, h⟩ -
    show Fr mX1_findBest (d + 1) 0 0 none 66 [(0, (2, v0)), (1, (2, v1)), (2, (2, v2)), (3, (2, v3))] [(0, x21)] _ H20 _
    refine r_if_eq (tgt := 77) dX1_findBest_66 (by decide) (fun c22 => ?_) (fun c22 => ?_)
    · replace h := h.1 c22
      refine r_aload_n 1 dX1_findBest_77 rfl rfl ?_
      refine r_getf cls4 15 dX1_findBest_78 (by decide) fl_RX1_48 rfl h1 h2 ?_
      obtain ⟨h23, h⟩ := h
      exact r_zret dX1_findBest_81 rfl h23 ⟨rfl, _, rfl, h⟩
    · replace h := h.2 c22
      refine r_aload_n 0 dX1_findBest_69 rfl rfl ?_
      refine r_aload_n 1 dX1_findBest_70 rfl rfl ?_
      refine r_aload_n 3 dX1_findBest_71 rfl rfl ?_
      refine r_iconst dX1_findBest_72 (by decide) (by decide) ?_
      refine r_iconst dX1_findBest_73 (by decide) (by decide) ?_
      refine r_invV (M := mX1_findBest) (As := [(2, v1), (2, v3), (0, 0), (0, 0)]) (st := []) (X := v0) (mc := 0) (ms := 0) (fc := 0) (fs := 0) h ok_X1_choose cls1 im_X1_choose se_X1_choose ml_RX1_74 dX1_findBest_74 rfl h4 h5 (Nat.le_of_ble_eq_true rfl) rfl ?_
      rintro r K1 H24 ⟨rfl, rfl, h⟩ -
      show Fr mX1_findBest (d + 1) 0 0 none 77 [(0, (2, v0)), (1, (2, v1)), (2, (2, v2)), (3, (2, v3))] [] _ H24 _
      refine r_aload_n 1 dX1_findBest_77 rfl rfl ?_
      refine r_getf cls4 15 dX1_findBest_78 (by decide) fl_RX1_48 rfl h1 h2 ?_
      obtain ⟨h26, h⟩ := h
      exact r_zret dX1_findBest_81 rfl h26 ⟨rfl, _, rfl, h⟩
  · replace h := h.2 c3
    refine r_aload_n 1 dX1_findBest_7 rfl rfl ?_
    refine r_getf cls4 15 dX1_findBest_8 (by decide) fl_RX1_48 rfl h1 h2 ?_
    obtain ⟨h27, h⟩ := h
    exact r_zret dX1_findBest_11 rfl h27 ⟨rfl, _, rfl, h⟩
set_option maxHeartbeats 4000000 in
set_option maxRecDepth 20000 in
theorem eX1_findBest {d : Nat} {K : Shp} {H : Mem} {q : Int → Mem → Prop} {v0 v1 v2 v3 : Int} (h : Rng K H → FX1_findBest_0 d K H q v0 v1 v2 v3) : Ci mX1_findBest (d + 1) [(2, v0), (2, v1), (2, v2), (2, v3)] K H q := Call.of rfl (Nat.le_of_ble_eq_true rfl) (fun o r => h  r)
def FX1_listAsks_0 (d : Nat) (K : Shp) (H : Mem) (q : Mem → Prop) (v0 : Int) (v1 : Int) (v2 : Int) : Prop := Fr mX1_listAsks (d + 1) 0 0 none 0 [(0, (2, v0)), (1, (2, v1)), (2, (2, v2))] [] K H (qv K q)
def FX1_listAsks_19 (d : Nat) (K : Shp) (H : Mem) (q : Mem → Prop) (v0 : Int) (v1 : Int) (v2 : Int) (v3 : Int) : Prop := Fr mX1_listAsks (d + 1) 0 0 none 19 [(0, (2, v0)), (1, (2, v1)), (2, (2, v2)), (3, (0, v3))] [] K H (qv K q)
set_option maxHeartbeats 4000000 in
set_option maxRecDepth 20000 in
theorem bX1_listAsks_0 {d : Nat} {K : Shp} {H : Mem} {q : Mem → Prop} {v0 v1 v2 : Int} (h : ((0 : Int) ≤ v0) ∧ (K[(v0 : Int).toNat]? = some (1, 8)) ∧ ∀ H3 : Mem, H3 = upA H (v0 : Int).toNat (up1 (H (v0 : Int).toNat) 1 0) → ((0 : Int) ≤ (H3 (v0 : Int).toNat 0)) ∧ (K[((H3 (v0 : Int).toNat 0) : Int).toNat]? = some (9, 6)) ∧ Cv mX9_arm d [(2, (H3 (v0 : Int).toNat 0)), (2, v1), (2, (H3 (v0 : Int).toNat 6))] K H3 (fun H6 => FX1_listAsks_19 d K H6 q (v0) (v1) (v2) (0))) : FX1_listAsks_0 d K H q (v0) (v1) (v2) := by
  unfold FX1_listAsks_0
  refine r_aload_n 0 dX1_listAsks_0 rfl rfl ?_
  refine r_iconst dX1_listAsks_1 (by decide) (by decide) ?_
  obtain ⟨h1, h⟩ := h
  obtain ⟨h2, h⟩ := h
  refine r_putf cls1 1 dX1_listAsks_2 (by decide) rfl fl_RX1_18 rfl h1 h2 (fun o => o) ?_
  replace h := h _ rfl
  generalize upA H (v0 : Int).toNat (up1 (H (v0 : Int).toNat) 1 0) = H3 at h ⊢
  refine r_aload_n 0 dX1_listAsks_5 rfl rfl ?_
  refine r_getf cls1 0 dX1_listAsks_6 (by decide) fl_RX1_12 rfl h1 h2 ?_
  refine r_aload_n 1 dX1_listAsks_9 rfl rfl ?_
  refine r_aload_n 0 dX1_listAsks_10 rfl rfl ?_
  refine r_getf cls1 6 dX1_listAsks_11 (by decide) fl_RX1_36 rfl h1 h2 ?_
  obtain ⟨h4, h⟩ := h
  obtain ⟨h5, h⟩ := h
  refine r_invV (M := mX1_listAsks) (As := [(2, v1), (2, (H3 (v0 : Int).toNat 6))]) (st := []) (X := (H3 (v0 : Int).toNat 0)) (mc := 0) (ms := 0) (fc := 0) (fs := 0) h ok_X9_arm cls9 im_X9_arm se_X9_arm ml_RX1_78 dX1_listAsks_14 rfl h4 h5 (Nat.le_of_ble_eq_true rfl) rfl ?_
  rintro r K1 H6 ⟨rfl, rfl, h⟩ -
  show Fr mX1_listAsks (d + 1) 0 0 none 17 [(0, (2, v0)), (1, (2, v1)), (2, (2, v2))] [] _ H6 _
  refine r_iconst dX1_listAsks_17 (by decide) (by decide) ?_
  refine r_istore_n dX1_listAsks_18 rfl (by decide) rfl ?_
  refine Fr.fewer [1, 2, 3, 0] rfl ?_
  exact h
set_option maxHeartbeats 4000000 in
set_option maxRecDepth 20000 in
theorem bX1_listAsks_19 {d : Nat} {K : Shp} {H : Mem} {q : Mem → Prop} {v0 v1 v2 v3 : Int} (h : ((0 : Int) ≤ v2) ∧ (K[(v2 : Int).toNat]? = some (2, 3)) ∧ ((¬ (v3 : Int) < (H (v2 : Int).toNat 0) → q H) ∧ ((v3 : Int) < (H (v2 : Int).toNat 0) → ((0 : Int) ≤ (H (v2 : Int).toNat 1)) ∧ ∃ n5 : Nat, (K[((H (v2 : Int).toNat 1) : Int).toNat]? = some (20, n5)) ∧ ((0 : Int) ≤ v3) ∧ ((v3 : Int) < n5) ∧ ((0 : Int) ≤ (H (v2 : Int).toNat 2)) ∧ ∃ n10 : Nat, (K[((H (v2 : Int).toNat 2) : Int).toNat]? = some (20, n10)) ∧ ((v3 : Int) < n10) ∧ ((0 : Int) ≤ v0) ∧ (K[(v0 : Int).toNat]? = some (1, 8)) ∧ Cv mX1_listAsk d [(2, v0), (2, v1), (0, (H ((H (v2 : Int).toNat 1) : Int).toNat (v3 : Int).toNat)), (0, (H ((H (v2 : Int).toNat 2) : Int).toNat (v3 : Int).toNat)), (0, 1)] K H (fun H15 => ((0 : Int) ≤ (H15 (v2 : Int).toNat 1)) ∧ ∃ n18 : Nat, (K[((H15 (v2 : Int).toNat 1) : Int).toNat]? = some (20, n18)) ∧ ((v3 : Int) < n18) ∧ ((0 : Int) ≤ (H15 (v2 : Int).toNat 2)) ∧ ∃ n22 : Nat, (K[((H15 (v2 : Int).toNat 2) : Int).toNat]? = some (20, n22)) ∧ ((v3 : Int) < n22) ∧ Cv mX1_listAsk d [(2, v0), (2, v1), (0, (H15 ((H15 (v2 : Int).toNat 1) : Int).toNat (v3 : Int).toNat)), (0, (H15 ((H15 (v2 : Int).toNat 2) : Int).toNat (v3 : Int).toNat)), (0, 0)] K H15 (fun H25 => (inI (v3 + 1)) ∧ FX1_listAsks_19 d K H25 q (v0) (v1) (v2) ((v3 + 1))))))) : FX1_listAsks_19 d K H q (v0) (v1) (v2) (v3) := by
  unfold FX1_listAsks_19
  refine r_iload_n 3 dX1_listAsks_19 rfl rfl ?_
  refine r_aload_n 2 dX1_listAsks_20 rfl rfl ?_
  obtain ⟨h1, h⟩ := h
  obtain ⟨h2, h⟩ := h
  refine r_getf cls2 0 dX1_listAsks_21 (by decide) fl_RX1_82 rfl h1 h2 ?_
  refine r_icmp_ge (tgt := 69) dX1_listAsks_24 (by decide) (fun c3 => ?_) (fun c3 => ?_)
  · replace h := h.1 c3
    exact r_vret dX1_listAsks_69 rfl ⟨rfl, rfl, h⟩
  · replace h := h.2 c3
    refine r_aload_n 0 dX1_listAsks_27 rfl rfl ?_
    refine r_aload_n 1 dX1_listAsks_28 rfl rfl ?_
    refine r_aload_n 2 dX1_listAsks_29 rfl rfl ?_
    refine r_getf cls2 1 dX1_listAsks_30 (by decide) fl_RX1_87 rfl h1 h2 ?_
    refine r_iload_n 3 dX1_listAsks_33 rfl rfl ?_
    obtain ⟨h4, h⟩ := h
    obtain ⟨n5, h⟩ := h
    obtain ⟨h6, h⟩ := h
    obtain ⟨h7, h⟩ := h
    obtain ⟨h8, h⟩ := h
    refine r_iald n5 dX1_listAsks_34 h4 h6 h7 h8 ?_
    refine r_aload_n 2 dX1_listAsks_35 rfl rfl ?_
    refine r_getf cls2 2 dX1_listAsks_36 (by decide) fl_RX1_90 rfl h1 h2 ?_
    refine r_iload_n 3 dX1_listAsks_39 rfl rfl ?_
    obtain ⟨h9, h⟩ := h
    obtain ⟨n10, h⟩ := h
    obtain ⟨h11, h⟩ := h
    obtain ⟨h12, h⟩ := h
    refine r_iald n10 dX1_listAsks_40 h9 h11 h7 h12 ?_
    refine r_iconst dX1_listAsks_41 (by decide) (by decide) ?_
    obtain ⟨h13, h⟩ := h
    obtain ⟨h14, h⟩ := h
    refine r_invV (M := mX1_listAsks) (As := [(2, v1), (0, (H ((H (v2 : Int).toNat 1) : Int).toNat (v3 : Int).toNat)), (0, (H ((H (v2 : Int).toNat 2) : Int).toNat (v3 : Int).toNat)), (0, 1)]) (st := []) (X := v0) (mc := 0) (ms := 0) (fc := 0) (fs := 0) h ok_X1_listAsk cls1 im_X1_listAsk se_X1_listAsk ml_RX1_93 dX1_listAsks_42 rfl h13 h14 (Nat.le_of_ble_eq_true rfl) rfl ?_
    rintro r K1 H15 ⟨rfl, rfl, h⟩ -
    show Fr mX1_listAsks (d + 1) 0 0 none 45 [(0, (2, v0)), (1, (2, v1)), (2, (2, v2)), (3, (0, v3))] [] _ H15 _
    refine r_aload_n 0 dX1_listAsks_45 rfl rfl ?_
    refine r_aload_n 1 dX1_listAsks_46 rfl rfl ?_
    refine r_aload_n 2 dX1_listAsks_47 rfl rfl ?_
    refine r_getf cls2 1 dX1_listAsks_48 (by decide) fl_RX1_87 rfl h1 h2 ?_
    refine r_iload_n 3 dX1_listAsks_51 rfl rfl ?_
    obtain ⟨h17, h⟩ := h
    obtain ⟨n18, h⟩ := h
    obtain ⟨h19, h⟩ := h
    obtain ⟨h20, h⟩ := h
    refine r_iald n18 dX1_listAsks_52 h17 h19 h7 h20 ?_
    refine r_aload_n 2 dX1_listAsks_53 rfl rfl ?_
    refine r_getf cls2 2 dX1_listAsks_54 (by decide) fl_RX1_90 rfl h1 h2 ?_
    refine r_iload_n 3 dX1_listAsks_57 rfl rfl ?_
    obtain ⟨h21, h⟩ := h
    obtain ⟨n22, h⟩ := h
    obtain ⟨h23, h⟩ := h
    obtain ⟨h24, h⟩ := h
    refine r_iald n22 dX1_listAsks_58 h21 h23 h7 h24 ?_
    refine r_iconst dX1_listAsks_59 (by decide) (by decide) ?_
    refine r_invV (M := mX1_listAsks) (As := [(2, v1), (0, (H15 ((H15 (v2 : Int).toNat 1) : Int).toNat (v3 : Int).toNat)), (0, (H15 ((H15 (v2 : Int).toNat 2) : Int).toNat (v3 : Int).toNat)), (0, 0)]) (st := []) (X := v0) (mc := 0) (ms := 0) (fc := 0) (fs := 0) h ok_X1_listAsk cls1 im_X1_listAsk se_X1_listAsk ml_RX1_93 dX1_listAsks_60 rfl h13 h14 (Nat.le_of_ble_eq_true rfl) rfl ?_
    rintro r K1 H25 ⟨rfl, rfl, h⟩ -
    show Fr mX1_listAsks (d + 1) 0 0 none 63 [(0, (2, v0)), (1, (2, v1)), (2, (2, v2)), (3, (0, v3))] [] _ H25 _
    obtain ⟨h27, h⟩ := h
    refine r_iinc 3 dX1_listAsks_63 (by decide) rfl h27 rfl ?_
    refine r_goto (tgt := 19) dX1_listAsks_66 (by decide) ?_
    refine Fr.fewer [1, 2, 3, 0] rfl ?_
    exact h
set_option maxHeartbeats 4000000 in
set_option maxRecDepth 20000 in
theorem eX1_listAsks {d : Nat} {K : Shp} {H : Mem} {q : Mem → Prop} {v0 v1 v2 : Int} (h : Rng K H → FX1_listAsks_0 d K H q v0 v1 v2) : Cv mX1_listAsks (d + 1) [(2, v0), (2, v1), (2, v2)] K H q := Call.of rfl (Nat.le_of_ble_eq_true rfl) (fun o r => h  r)
def FX1_listAsk_0 (d : Nat) (K : Shp) (H : Mem) (q : Mem → Prop) (v0 : Int) (v1 : Int) (v2 : Int) (v3 : Int) (v4 : Int) : Prop := Fr mX1_listAsk (d + 1) 0 0 none 0 [(0, (2, v0)), (1, (2, v1)), (2, (0, v2)), (3, (0, v3)), (4, (0, v4))] [] K H (qv K q)
set_option maxHeartbeats 4000000 in
set_option maxRecDepth 20000 in
theorem bX1_listAsk_0 {d : Nat} {K : Shp} {H : Mem} {q : Mem → Prop} {v0 v1 v2 v3 v4 : Int} (h : ((0 : Int) ≤ v0) ∧ (K[(v0 : Int).toNat]? = some (1, 8)) ∧ ((¬ ((H (v0 : Int).toNat 1) : Int) < 16 → q H) ∧ (((H (v0 : Int).toNat 1) : Int) < 16 → ((0 : Int) ≤ (H (v0 : Int).toNat 0)) ∧ (K[((H (v0 : Int).toNat 0) : Int).toNat]? = some (9, 6)) ∧ Ci mX9_bearsOn d [(2, (H (v0 : Int).toNat 0)), (2, v1), (0, v2), (0, v3), (0, v4)] K H (fun x7 H6 => ((¬ (x7 : Int) = 0 → q H6) ∧ ((x7 : Int) = 0 → ((0 : Int) ≤ (H6 (v0 : Int).toNat 2)) ∧ ∃ n10 : Nat, (K[((H6 (v0 : Int).toNat 2) : Int).toNat]? = some (20, n10)) ∧ ((0 : Int) ≤ (H6 (v0 : Int).toNat 1)) ∧ (((H6 (v0 : Int).toNat 1) : Int) < n10) ∧ ∀ H14 : Mem, H14 = upA H6 ((H6 (v0 : Int).toNat 2) : Int).toNat (up1 (H6 ((H6 (v0 : Int).toNat 2) : Int).toNat) ((H6 (v0 : Int).toNat 1) : Int).toNat v2) → ((0 : Int) ≤ (H14 (v0 : Int).toNat 3)) ∧ ∃ n16 : Nat, (K[((H14 (v0 : Int).toNat 3) : Int).toNat]? = some (20, n16)) ∧ ((0 : Int) ≤ (H14 (v0 : Int).toNat 1)) ∧ (((H14 (v0 : Int).toNat 1) : Int) < n16) ∧ ∀ H20 : Mem, H20 = upA H14 ((H14 (v0 : Int).toNat 3) : Int).toNat (up1 (H14 ((H14 (v0 : Int).toNat 3) : Int).toNat) ((H14 (v0 : Int).toNat 1) : Int).toNat v3) → ((0 : Int) ≤ (H20 (v0 : Int).toNat 4)) ∧ ∃ n22 : Nat, (K[((H20 (v0 : Int).toNat 4) : Int).toNat]? = some (22, n22)) ∧ ((0 : Int) ≤ (H20 (v0 : Int).toNat 1)) ∧ (((H20 (v0 : Int).toNat 1) : Int) < n22) ∧ ((v4 : Int) = 0 ∨ (v4 : Int) = 1) ∧ ∀ H27 : Mem, H27 = upA H20 ((H20 (v0 : Int).toNat 4) : Int).toNat (up1 (H20 ((H20 (v0 : Int).toNat 4) : Int).toNat) ((H20 (v0 : Int).toNat 1) : Int).toNat v4) → (inI ((H27 (v0 : Int).toNat 1) + 1)) ∧ ∀ H29 : Mem, H29 = upA H27 (v0 : Int).toNat (up1 (H27 (v0 : Int).toNat) 1 ((H27 (v0 : Int).toNat 1) + 1)) → q H29)))))) : FX1_listAsk_0 d K H q (v0) (v1) (v2) (v3) (v4) := by
  unfold FX1_listAsk_0
  refine r_aload_n 0 dX1_listAsk_0 rfl rfl ?_
  obtain ⟨h1, h⟩ := h
  obtain ⟨h2, h⟩ := h
  refine r_getf cls1 1 dX1_listAsk_1 (by decide) fl_RX1_18 rfl h1 h2 ?_
  refine r_bipush dX1_listAsk_4 (by decide) (by decide) ?_
  refine r_icmp_ge (tgt := 65) dX1_listAsk_6 (by decide) (fun c3 => ?_) (fun c3 => ?_)
  · replace h := h.1 c3
    exact r_vret dX1_listAsk_65 rfl ⟨rfl, rfl, h⟩
  · replace h := h.2 c3
    refine r_aload_n 0 dX1_listAsk_9 rfl rfl ?_
    refine r_getf cls1 0 dX1_listAsk_10 (by decide) fl_RX1_12 rfl h1 h2 ?_
    refine r_aload_n 1 dX1_listAsk_13 rfl rfl ?_
    refine r_iload_n 2 dX1_listAsk_14 rfl rfl ?_
    refine r_iload_n 3 dX1_listAsk_15 rfl rfl ?_
    refine r_iload 4 dX1_listAsk_16 rfl ?_
    obtain ⟨h4, h⟩ := h
    obtain ⟨h5, h⟩ := h
    refine r_invV (M := mX1_listAsk) (As := [(2, v1), (0, v2), (0, v3), (0, v4)]) (st := []) (X := (H (v0 : Int).toNat 0)) (mc := 0) (ms := 0) (fc := 0) (fs := 0) h ok_X9_bearsOn cls9 im_X9_bearsOn se_X9_bearsOn ml_RX1_97 dX1_listAsk_18 rfl h4 h5 (Nat.le_of_ble_eq_true rfl) rfl ?_
    rintro r K1 H6 ⟨rfl, x7, rfl, h⟩ -
    show Fr mX1_listAsk (d + 1) 0 0 none 21 [(0, (2, v0)), (1, (2, v1)), (2, (0, v2)), (3, (0, v3)), (4, (0, v4))] [(0, x7)] _ H6 _
    refine r_if_ne (tgt := 65) dX1_listAsk_21 (by decide) (fun c8 => ?_) (fun c8 => ?_)
    · replace h := h.1 c8
      exact r_vret dX1_listAsk_65 rfl ⟨rfl, rfl, h⟩
    · replace h := h.2 c8
      refine r_aload_n 0 dX1_listAsk_24 rfl rfl ?_
      refine r_getf cls1 2 dX1_listAsk_25 (by decide) fl_RX1_22 rfl h1 h2 ?_
      refine r_aload_n 0 dX1_listAsk_28 rfl rfl ?_
      refine r_getf cls1 1 dX1_listAsk_29 (by decide) fl_RX1_18 rfl h1 h2 ?_
      refine r_iload_n 2 dX1_listAsk_32 rfl rfl ?_
      obtain ⟨h9, h⟩ := h
      obtain ⟨n10, h⟩ := h
      obtain ⟨h11, h⟩ := h
      obtain ⟨h12, h⟩ := h
      obtain ⟨h13, h⟩ := h
      refine r_iast n10 dX1_listAsk_33 h9 h11 h12 h13 ?_
      replace h := h _ rfl
      generalize upA H6 ((H6 (v0 : Int).toNat 2) : Int).toNat (up1 (H6 ((H6 (v0 : Int).toNat 2) : Int).toNat) ((H6 (v0 : Int).toNat 1) : Int).toNat v2) = H14 at h ⊢
      refine r_aload_n 0 dX1_listAsk_34 rfl rfl ?_
      refine r_getf cls1 3 dX1_listAsk_35 (by decide) fl_RX1_26 rfl h1 h2 ?_
      refine r_aload_n 0 dX1_listAsk_38 rfl rfl ?_
      refine r_getf cls1 1 dX1_listAsk_39 (by decide) fl_RX1_18 rfl h1 h2 ?_
      refine r_iload_n 3 dX1_listAsk_42 rfl rfl ?_
      obtain ⟨h15, h⟩ := h
      obtain ⟨n16, h⟩ := h
      obtain ⟨h17, h⟩ := h
      obtain ⟨h18, h⟩ := h
      obtain ⟨h19, h⟩ := h
      refine r_iast n16 dX1_listAsk_43 h15 h17 h18 h19 ?_
      replace h := h _ rfl
      generalize upA H14 ((H14 (v0 : Int).toNat 3) : Int).toNat (up1 (H14 ((H14 (v0 : Int).toNat 3) : Int).toNat) ((H14 (v0 : Int).toNat 1) : Int).toNat v3) = H20 at h ⊢
      refine r_aload_n 0 dX1_listAsk_44 rfl rfl ?_
      refine r_getf cls1 4 dX1_listAsk_45 (by decide) fl_RX1_29 rfl h1 h2 ?_
      refine r_aload_n 0 dX1_listAsk_48 rfl rfl ?_
      refine r_getf cls1 1 dX1_listAsk_49 (by decide) fl_RX1_18 rfl h1 h2 ?_
      refine r_iload 4 dX1_listAsk_52 rfl ?_
      obtain ⟨h21, h⟩ := h
      obtain ⟨n22, h⟩ := h
      obtain ⟨h23, h⟩ := h
      obtain ⟨h24, h⟩ := h
      obtain ⟨h25, h⟩ := h
      obtain ⟨h26, h⟩ := h
      refine r_zast n22 dX1_listAsk_54 h21 h23 h24 h25 h26 ?_
      replace h := h _ rfl
      generalize upA H20 ((H20 (v0 : Int).toNat 4) : Int).toNat (up1 (H20 ((H20 (v0 : Int).toNat 4) : Int).toNat) ((H20 (v0 : Int).toNat 1) : Int).toNat v4) = H27 at h ⊢
      refine r_aload_n 0 dX1_listAsk_55 rfl rfl ?_
      refine r_dup dX1_listAsk_56 (show (2 : Nat) ≠ 1 by decide) ?_
      refine r_getf cls1 1 dX1_listAsk_57 (by decide) fl_RX1_18 rfl h1 h2 ?_
      refine r_iconst dX1_listAsk_60 (by decide) (by decide) ?_
      obtain ⟨h28, h⟩ := h
      refine r_iadd dX1_listAsk_61 h28 ?_
      refine r_putf cls1 1 dX1_listAsk_62 (by decide) rfl fl_RX1_18 rfl h1 h2 (fun o => o) ?_
      replace h := h _ rfl
      generalize upA H27 (v0 : Int).toNat (up1 (H27 (v0 : Int).toNat) 1 ((H27 (v0 : Int).toNat 1) + 1)) = H29 at h ⊢
      exact r_vret dX1_listAsk_65 rfl ⟨rfl, rfl, h⟩
set_option maxHeartbeats 4000000 in
set_option maxRecDepth 20000 in
theorem eX1_listAsk {d : Nat} {K : Shp} {H : Mem} {q : Mem → Prop} {v0 v1 v2 v3 v4 : Int} (h : inI v2 → inI v3 → inI v4 → Rng K H → FX1_listAsk_0 d K H q v0 v1 v2 v3 v4) : Cv mX1_listAsk (d + 1) [(2, v0), (2, v1), (0, v2), (0, v3), (0, v4)] K H q := Call.of rfl (Nat.le_of_ble_eq_true rfl) (fun o r => h (o (0, v2) (by simp)) (o (0, v3) (by simp)) (o (0, v4) (by simp)) r)
def FX1_bearsAll_0 (d : Nat) (K : Shp) (H : Mem) (q : Int → Mem → Prop) (v0 : Int) (v1 : Int) : Prop := Fr mX1_bearsAll (d + 1) 0 0 none 0 [(0, (2, v0)), (1, (2, v1))] [] K H (qi K q)
def FX1_bearsAll_14 (d : Nat) (K : Shp) (H : Mem) (q : Int → Mem → Prop) (v0 : Int) (v1 : Int) (v2 : Int) : Prop := Fr mX1_bearsAll (d + 1) 0 0 none 14 [(0, (2, v0)), (1, (2, v1)), (2, (0, v2))] [] K H (qi K q)
set_option maxHeartbeats 4000000 in
set_option maxRecDepth 20000 in
theorem bX1_bearsAll_0 {d : Nat} {K : Shp} {H : Mem} {q : Int → Mem → Prop} {v0 v1 : Int} (h : ((0 : Int) ≤ v0) ∧ (K[(v0 : Int).toNat]? = some (1, 8)) ∧ ((0 : Int) ≤ (H (v0 : Int).toNat 0)) ∧ (K[((H (v0 : Int).toNat 0) : Int).toNat]? = some (9, 6)) ∧ Cv mX9_arm d [(2, (H (v0 : Int).toNat 0)), (2, v1), (2, (H (v0 : Int).toNat 6))] K H (fun H5 => FX1_bearsAll_14 d K H5 q (v0) (v1) (0))) : FX1_bearsAll_0 d K H q (v0) (v1) := by
  unfold FX1_bearsAll_0
  refine r_aload_n 0 dX1_bearsAll_0 rfl rfl ?_
  obtain ⟨h1, h⟩ := h
  obtain ⟨h2, h⟩ := h
  refine r_getf cls1 0 dX1_bearsAll_1 (by decide) fl_RX1_12 rfl h1 h2 ?_
  refine r_aload_n 1 dX1_bearsAll_4 rfl rfl ?_
  refine r_aload_n 0 dX1_bearsAll_5 rfl rfl ?_
  refine r_getf cls1 6 dX1_bearsAll_6 (by decide) fl_RX1_36 rfl h1 h2 ?_
  obtain ⟨h3, h⟩ := h
  obtain ⟨h4, h⟩ := h
  refine r_invV (M := mX1_bearsAll) (As := [(2, v1), (2, (H (v0 : Int).toNat 6))]) (st := []) (X := (H (v0 : Int).toNat 0)) (mc := 0) (ms := 0) (fc := 0) (fs := 0) h ok_X9_arm cls9 im_X9_arm se_X9_arm ml_RX1_78 dX1_bearsAll_9 rfl h3 h4 (Nat.le_of_ble_eq_true rfl) rfl ?_
  rintro r K1 H5 ⟨rfl, rfl, h⟩ -
  show Fr mX1_bearsAll (d + 1) 0 0 none 12 [(0, (2, v0)), (1, (2, v1))] [] _ H5 _
  refine r_iconst dX1_bearsAll_12 (by decide) (by decide) ?_
  refine r_istore_n dX1_bearsAll_13 rfl (by decide) rfl ?_
  refine Fr.fewer [1, 2, 0] rfl ?_
  exact h
set_option maxHeartbeats 4000000 in
set_option maxRecDepth 20000 in
theorem bX1_bearsAll_14 {d : Nat} {K : Shp} {H : Mem} {q : Int → Mem → Prop} {v0 v1 v2 : Int} (h : ((0 : Int) ≤ v0) ∧ (K[(v0 : Int).toNat]? = some (1, 8)) ∧ ((¬ (v2 : Int) < (H (v0 : Int).toNat 1) → q 1 H) ∧ ((v2 : Int) < (H (v0 : Int).toNat 1) → ((0 : Int) ≤ (H (v0 : Int).toNat 2)) ∧ ∃ n5 : Nat, (K[((H (v0 : Int).toNat 2) : Int).toNat]? = some (20, n5)) ∧ ((0 : Int) ≤ v2) ∧ ((v2 : Int) < n5) ∧ ((0 : Int) ≤ (H (v0 : Int).toNat 3)) ∧ ∃ n10 : Nat, (K[((H (v0 : Int).toNat 3) : Int).toNat]? = some (20, n10)) ∧ ((v2 : Int) < n10) ∧ ((0 : Int) ≤ (H (v0 : Int).toNat 4)) ∧ ∃ n14 : Nat, (K[((H (v0 : Int).toNat 4) : Int).toNat]? = some (22, n14)) ∧ ((v2 : Int) < n14) ∧ ((0 : Int) ≤ (H (v0 : Int).toNat 0)) ∧ (K[((H (v0 : Int).toNat 0) : Int).toNat]? = some (9, 6)) ∧ Ci mX9_bearsOn d [(2, (H (v0 : Int).toNat 0)), (2, v1), (0, (H ((H (v0 : Int).toNat 2) : Int).toNat (v2 : Int).toNat)), (0, (H ((H (v0 : Int).toNat 3) : Int).toNat (v2 : Int).toNat)), (0, (H ((H (v0 : Int).toNat 4) : Int).toNat (v2 : Int).toNat))] K H (fun x20 H19 => ((¬ (x20 : Int) = 0 → (inI (v2 + 1)) ∧ FX1_bearsAll_14 d K H19 q (v0) (v1) ((v2 + 1))) ∧ ((x20 : Int) = 0 → Cv mX1_putFirst d [(2, v0), (0, v2)] K H19 (fun H23 => q 0 H23))))))) : FX1_bearsAll_14 d K H q (v0) (v1) (v2) := by
  unfold FX1_bearsAll_14
  refine r_iload_n 2 dX1_bearsAll_14 rfl rfl ?_
  refine r_aload_n 0 dX1_bearsAll_15 rfl rfl ?_
  obtain ⟨h1, h⟩ := h
  obtain ⟨h2, h⟩ := h
  refine r_getf cls1 1 dX1_bearsAll_16 (by decide) fl_RX1_18 rfl h1 h2 ?_
  refine r_icmp_ge (tgt := 64) dX1_bearsAll_19 (by decide) (fun c3 => ?_) (fun c3 => ?_)
  · replace h := h.1 c3
    refine r_iconst dX1_bearsAll_64 (by decide) (by decide) ?_
    exact r_zret dX1_bearsAll_65 rfl (Or.inr rfl) ⟨rfl, _, rfl, h⟩
  · replace h := h.2 c3
    refine r_aload_n 0 dX1_bearsAll_22 rfl rfl ?_
    refine r_getf cls1 0 dX1_bearsAll_23 (by decide) fl_RX1_12 rfl h1 h2 ?_
    refine r_aload_n 1 dX1_bearsAll_26 rfl rfl ?_
    refine r_aload_n 0 dX1_bearsAll_27 rfl rfl ?_
    refine r_getf cls1 2 dX1_bearsAll_28 (by decide) fl_RX1_22 rfl h1 h2 ?_
    refine r_iload_n 2 dX1_bearsAll_31 rfl rfl ?_
    obtain ⟨h4, h⟩ := h
    obtain ⟨n5, h⟩ := h
    obtain ⟨h6, h⟩ := h
    obtain ⟨h7, h⟩ := h
    obtain ⟨h8, h⟩ := h
    refine r_iald n5 dX1_bearsAll_32 h4 h6 h7 h8 ?_
    refine r_aload_n 0 dX1_bearsAll_33 rfl rfl ?_
    refine r_getf cls1 3 dX1_bearsAll_34 (by decide) fl_RX1_26 rfl h1 h2 ?_
    refine r_iload_n 2 dX1_bearsAll_37 rfl rfl ?_
    obtain ⟨h9, h⟩ := h
    obtain ⟨n10, h⟩ := h
    obtain ⟨h11, h⟩ := h
    obtain ⟨h12, h⟩ := h
    refine r_iald n10 dX1_bearsAll_38 h9 h11 h7 h12 ?_
    refine r_aload_n 0 dX1_bearsAll_39 rfl rfl ?_
    refine r_getf cls1 4 dX1_bearsAll_40 (by decide) fl_RX1_29 rfl h1 h2 ?_
    refine r_iload_n 2 dX1_bearsAll_43 rfl rfl ?_
    obtain ⟨h13, h⟩ := h
    obtain ⟨n14, h⟩ := h
    obtain ⟨h15, h⟩ := h
    obtain ⟨h16, h⟩ := h
    refine r_zald n14 dX1_bearsAll_44 h13 h15 h7 h16 ?_
    obtain ⟨h17, h⟩ := h
    obtain ⟨h18, h⟩ := h
    refine r_invV (M := mX1_bearsAll) (As := [(2, v1), (0, (H ((H (v0 : Int).toNat 2) : Int).toNat (v2 : Int).toNat)), (0, (H ((H (v0 : Int).toNat 3) : Int).toNat (v2 : Int).toNat)), (0, (H ((H (v0 : Int).toNat 4) : Int).toNat (v2 : Int).toNat))]) (st := []) (X := (H (v0 : Int).toNat 0)) (mc := 0) (ms := 0) (fc := 0) (fs := 0) h ok_X9_bearsOn cls9 im_X9_bearsOn se_X9_bearsOn ml_RX1_97 dX1_bearsAll_45 rfl h17 h18 (Nat.le_of_ble_eq_true rfl) rfl ?_
    rintro r K1 H19 ⟨rfl, x20, rfl, h⟩ -
    show Fr mX1_bearsAll (d + 1) 0 0 none 48 [(0, (2, v0)), (1, (2, v1)), (2, (0, v2))] [(0, x20)] _ H19 _
    refine r_if_ne (tgt := 58) dX1_bearsAll_48 (by decide) (fun c21 => ?_) (fun c21 => ?_)
    · replace h := h.1 c21
      obtain ⟨h22, h⟩ := h
      refine r_iinc 2 dX1_bearsAll_58 (by decide) rfl h22 rfl ?_
      refine r_goto (tgt := 14) dX1_bearsAll_61 (by decide) ?_
      refine Fr.fewer [1, 2, 0] rfl ?_
      exact h
    · replace h := h.2 c21
      refine r_aload_n 0 dX1_bearsAll_51 rfl rfl ?_
      refine r_iload_n 2 dX1_bearsAll_52 rfl rfl ?_
      refine r_invV (M := mX1_bearsAll) (As := [(0, v2)]) (st := []) (X := v0) (mc := 0) (ms := 0) (fc := 0) (fs := 0) h ok_X1_putFirst cls1 im_X1_putFirst se_X1_putFirst ml_RX1_101 dX1_bearsAll_53 rfl h1 h2 (Nat.le_of_ble_eq_true rfl) rfl ?_
      rintro r K1 H23 ⟨rfl, rfl, h⟩ -
      show Fr mX1_bearsAll (d + 1) 0 0 none 56 [(0, (2, v0)), (1, (2, v1)), (2, (0, v2))] [] _ H23 _
      refine r_iconst dX1_bearsAll_56 (by decide) (by decide) ?_
      exact r_zret dX1_bearsAll_57 rfl (Or.inl rfl) ⟨rfl, _, rfl, h⟩
set_option maxHeartbeats 4000000 in
set_option maxRecDepth 20000 in
theorem eX1_bearsAll {d : Nat} {K : Shp} {H : Mem} {q : Int → Mem → Prop} {v0 v1 : Int} (h : Rng K H → FX1_bearsAll_0 d K H q v0 v1) : Ci mX1_bearsAll (d + 1) [(2, v0), (2, v1)] K H q := Call.of rfl (Nat.le_of_ble_eq_true rfl) (fun o r => h  r)
def FX1_putFirst_0 (d : Nat) (K : Shp) (H : Mem) (q : Mem → Prop) (v0 : Int) (v1 : Int) : Prop := Fr mX1_putFirst d 0 0 none 0 [(0, (2, v0)), (1, (0, v1))] [] K H (qv K q)
set_option maxHeartbeats 4000000 in
set_option maxRecDepth 20000 in
theorem bX1_putFirst_0 {d : Nat} {K : Shp} {H : Mem} {q : Mem → Prop} {v0 v1 : Int} (h : ((0 : Int) ≤ v0) ∧ (K[(v0 : Int).toNat]? = some (1, 8)) ∧ ((0 : Int) ≤ (H (v0 : Int).toNat 2)) ∧ ∃ n4 : Nat, (K[((H (v0 : Int).toNat 2) : Int).toNat]? = some (20, n4)) ∧ ((0 : Int) ≤ v1) ∧ ((v1 : Int) < n4) ∧ ((0 : Int) ≤ (H (v0 : Int).toNat 3)) ∧ ∃ n9 : Nat, (K[((H (v0 : Int).toNat 3) : Int).toNat]? = some (20, n9)) ∧ ((v1 : Int) < n9) ∧ ((0 : Int) ≤ (H (v0 : Int).toNat 4)) ∧ ∃ n13 : Nat, (K[((H (v0 : Int).toNat 4) : Int).toNat]? = some (22, n13)) ∧ ((v1 : Int) < n13) ∧ ((0 : Int) < n4) ∧ ∀ H17 : Mem, H17 = upA H ((H (v0 : Int).toNat 2) : Int).toNat (up1 (H ((H (v0 : Int).toNat 2) : Int).toNat) (v1 : Int).toNat (H ((H (v0 : Int).toNat 2) : Int).toNat (0 : Int).toNat)) → ((0 : Int) ≤ (H17 (v0 : Int).toNat 3)) ∧ ∃ n19 : Nat, (K[((H17 (v0 : Int).toNat 3) : Int).toNat]? = some (20, n19)) ∧ ((0 : Int) < n19) ∧ ((v1 : Int) < n19) ∧ ∀ H23 : Mem, H23 = upA H17 ((H17 (v0 : Int).toNat 3) : Int).toNat (up1 (H17 ((H17 (v0 : Int).toNat 3) : Int).toNat) (v1 : Int).toNat (H17 ((H17 (v0 : Int).toNat 3) : Int).toNat (0 : Int).toNat)) → ((0 : Int) ≤ (H23 (v0 : Int).toNat 4)) ∧ ∃ n25 : Nat, (K[((H23 (v0 : Int).toNat 4) : Int).toNat]? = some (22, n25)) ∧ ((0 : Int) < n25) ∧ ((v1 : Int) < n25) ∧ (((H23 ((H23 (v0 : Int).toNat 4) : Int).toNat (0 : Int).toNat) : Int) = 0 ∨ ((H23 ((H23 (v0 : Int).toNat 4) : Int).toNat (0 : Int).toNat) : Int) = 1) ∧ ∀ H30 : Mem, H30 = upA H23 ((H23 (v0 : Int).toNat 4) : Int).toNat (up1 (H23 ((H23 (v0 : Int).toNat 4) : Int).toNat) (v1 : Int).toNat (H23 ((H23 (v0 : Int).toNat 4) : Int).toNat (0 : Int).toNat)) → ((0 : Int) ≤ (H30 (v0 : Int).toNat 2)) ∧ ∃ n32 : Nat, (K[((H30 (v0 : Int).toNat 2) : Int).toNat]? = some (20, n32)) ∧ ((0 : Int) < n32) ∧ ∀ H35 : Mem, H35 = upA H30 ((H30 (v0 : Int).toNat 2) : Int).toNat (up1 (H30 ((H30 (v0 : Int).toNat 2) : Int).toNat) (0 : Int).toNat (H ((H (v0 : Int).toNat 2) : Int).toNat (v1 : Int).toNat)) → ((0 : Int) ≤ (H35 (v0 : Int).toNat 3)) ∧ ∃ n37 : Nat, (K[((H35 (v0 : Int).toNat 3) : Int).toNat]? = some (20, n37)) ∧ ((0 : Int) < n37) ∧ ∀ H40 : Mem, H40 = upA H35 ((H35 (v0 : Int).toNat 3) : Int).toNat (up1 (H35 ((H35 (v0 : Int).toNat 3) : Int).toNat) (0 : Int).toNat (H ((H (v0 : Int).toNat 3) : Int).toNat (v1 : Int).toNat)) → ((0 : Int) ≤ (H40 (v0 : Int).toNat 4)) ∧ ∃ n42 : Nat, (K[((H40 (v0 : Int).toNat 4) : Int).toNat]? = some (22, n42)) ∧ ((0 : Int) < n42) ∧ (((H ((H (v0 : Int).toNat 4) : Int).toNat (v1 : Int).toNat) : Int) = 0 ∨ ((H ((H (v0 : Int).toNat 4) : Int).toNat (v1 : Int).toNat) : Int) = 1) ∧ ∀ H46 : Mem, H46 = upA H40 ((H40 (v0 : Int).toNat 4) : Int).toNat (up1 (H40 ((H40 (v0 : Int).toNat 4) : Int).toNat) (0 : Int).toNat (H ((H (v0 : Int).toNat 4) : Int).toNat (v1 : Int).toNat)) → q H46) : FX1_putFirst_0 d K H q (v0) (v1) := by
  unfold FX1_putFirst_0
  refine r_aload_n 0 dX1_putFirst_0 rfl rfl ?_
  obtain ⟨h1, h⟩ := h
  obtain ⟨h2, h⟩ := h
  refine r_getf cls1 2 dX1_putFirst_1 (by decide) fl_RX1_22 rfl h1 h2 ?_
  refine r_iload_n 1 dX1_putFirst_4 rfl rfl ?_
  obtain ⟨h3, h⟩ := h
  obtain ⟨n4, h⟩ := h
  obtain ⟨h5, h⟩ := h
  obtain ⟨h6, h⟩ := h
  obtain ⟨h7, h⟩ := h
  refine r_iald n4 dX1_putFirst_5 h3 h5 h6 h7 ?_
  refine r_istore_n dX1_putFirst_6 rfl (by decide) rfl ?_
  refine r_aload_n 1 dX1_putFirst_7 rfl rfl ?_
  refine r_getf cls1 3 dX1_putFirst_8 (by decide) fl_RX1_26 rfl h1 h2 ?_
  refine r_iload_n 2 dX1_putFirst_11 rfl rfl ?_
  obtain ⟨h8, h⟩ := h
  obtain ⟨n9, h⟩ := h
  obtain ⟨h10, h⟩ := h
  obtain ⟨h11, h⟩ := h
  refine r_iald n9 dX1_putFirst_12 h8 h10 h6 h11 ?_
  refine r_istore_n dX1_putFirst_13 rfl (by decide) rfl ?_
  refine r_aload_n 2 dX1_putFirst_14 rfl rfl ?_
  refine r_getf cls1 4 dX1_putFirst_15 (by decide) fl_RX1_29 rfl h1 h2 ?_
  refine r_iload_n 3 dX1_putFirst_18 rfl rfl ?_
  obtain ⟨h12, h⟩ := h
  obtain ⟨n13, h⟩ := h
  obtain ⟨h14, h⟩ := h
  obtain ⟨h15, h⟩ := h
  refine r_zald n13 dX1_putFirst_19 h12 h14 h6 h15 ?_
  refine r_istore dX1_putFirst_20 (by decide) rfl ?_
  refine r_aload_n 3 dX1_putFirst_22 rfl rfl ?_
  refine r_getf cls1 2 dX1_putFirst_23 (by decide) fl_RX1_22 rfl h1 h2 ?_
  refine r_iload_n 4 dX1_putFirst_26 rfl rfl ?_
  refine r_aload_n 3 dX1_putFirst_27 rfl rfl ?_
  refine r_getf cls1 2 dX1_putFirst_28 (by decide) fl_RX1_22 rfl h1 h2 ?_
  refine r_iconst dX1_putFirst_31 (by decide) (by decide) ?_
  obtain ⟨h16, h⟩ := h
  refine r_iald n4 dX1_putFirst_32 h3 h5 (by decide) h16 ?_
  refine r_iast n4 dX1_putFirst_33 h3 h5 h6 h7 ?_
  replace h := h _ rfl
  generalize upA H ((H (v0 : Int).toNat 2) : Int).toNat (up1 (H ((H (v0 : Int).toNat 2) : Int).toNat) (v1 : Int).toNat (H ((H (v0 : Int).toNat 2) : Int).toNat (0 : Int).toNat)) = H17 at h ⊢
  refine r_aload_n 3 dX1_putFirst_34 rfl rfl ?_
  refine r_getf cls1 3 dX1_putFirst_35 (by decide) fl_RX1_26 rfl h1 h2 ?_
  refine r_iload_n 4 dX1_putFirst_38 rfl rfl ?_
  refine r_aload_n 3 dX1_putFirst_39 rfl rfl ?_
  refine r_getf cls1 3 dX1_putFirst_40 (by decide) fl_RX1_26 rfl h1 h2 ?_
  refine r_iconst dX1_putFirst_43 (by decide) (by decide) ?_
  obtain ⟨h18, h⟩ := h
  obtain ⟨n19, h⟩ := h
  obtain ⟨h20, h⟩ := h
  obtain ⟨h21, h⟩ := h
  refine r_iald n19 dX1_putFirst_44 h18 h20 (by decide) h21 ?_
  obtain ⟨h22, h⟩ := h
  refine r_iast n19 dX1_putFirst_45 h18 h20 h6 h22 ?_
  replace h := h _ rfl
  generalize upA H17 ((H17 (v0 : Int).toNat 3) : Int).toNat (up1 (H17 ((H17 (v0 : Int).toNat 3) : Int).toNat) (v1 : Int).toNat (H17 ((H17 (v0 : Int).toNat 3) : Int).toNat (0 : Int).toNat)) = H23 at h ⊢
  refine r_aload_n 3 dX1_putFirst_46 rfl rfl ?_
  refine r_getf cls1 4 dX1_putFirst_47 (by decide) fl_RX1_29 rfl h1 h2 ?_
  refine r_iload_n 4 dX1_putFirst_50 rfl rfl ?_
  refine r_aload_n 3 dX1_putFirst_51 rfl rfl ?_
  refine r_getf cls1 4 dX1_putFirst_52 (by decide) fl_RX1_29 rfl h1 h2 ?_
  refine r_iconst dX1_putFirst_55 (by decide) (by decide) ?_
  obtain ⟨h24, h⟩ := h
  obtain ⟨n25, h⟩ := h
  obtain ⟨h26, h⟩ := h
  obtain ⟨h27, h⟩ := h
  refine r_zald n25 dX1_putFirst_56 h24 h26 (by decide) h27 ?_
  obtain ⟨h28, h⟩ := h
  obtain ⟨h29, h⟩ := h
  refine r_zast n25 dX1_putFirst_57 h24 h26 h6 h28 h29 ?_
  replace h := h _ rfl
  generalize upA H23 ((H23 (v0 : Int).toNat 4) : Int).toNat (up1 (H23 ((H23 (v0 : Int).toNat 4) : Int).toNat) (v1 : Int).toNat (H23 ((H23 (v0 : Int).toNat 4) : Int).toNat (0 : Int).toNat)) = H30 at h ⊢
  refine r_aload_n 3 dX1_putFirst_58 rfl rfl ?_
  refine r_getf cls1 2 dX1_putFirst_59 (by decide) fl_RX1_22 rfl h1 h2 ?_
  refine r_iconst dX1_putFirst_62 (by decide) (by decide) ?_
  refine r_iload_n 2 dX1_putFirst_63 rfl rfl ?_
  obtain ⟨h31, h⟩ := h
  obtain ⟨n32, h⟩ := h
  obtain ⟨h33, h⟩ := h
  obtain ⟨h34, h⟩ := h
  refine r_iast n32 dX1_putFirst_64 h31 h33 (by decide) h34 ?_
  replace h := h _ rfl
  generalize upA H30 ((H30 (v0 : Int).toNat 2) : Int).toNat (up1 (H30 ((H30 (v0 : Int).toNat 2) : Int).toNat) (0 : Int).toNat (H ((H (v0 : Int).toNat 2) : Int).toNat (v1 : Int).toNat)) = H35 at h ⊢
  refine r_aload_n 3 dX1_putFirst_65 rfl rfl ?_
  refine r_getf cls1 3 dX1_putFirst_66 (by decide) fl_RX1_26 rfl h1 h2 ?_
  refine r_iconst dX1_putFirst_69 (by decide) (by decide) ?_
  refine r_iload_n 1 dX1_putFirst_70 rfl rfl ?_
  obtain ⟨h36, h⟩ := h
  obtain ⟨n37, h⟩ := h
  obtain ⟨h38, h⟩ := h
  obtain ⟨h39, h⟩ := h
  refine r_iast n37 dX1_putFirst_71 h36 h38 (by decide) h39 ?_
  replace h := h _ rfl
  generalize upA H35 ((H35 (v0 : Int).toNat 3) : Int).toNat (up1 (H35 ((H35 (v0 : Int).toNat 3) : Int).toNat) (0 : Int).toNat (H ((H (v0 : Int).toNat 3) : Int).toNat (v1 : Int).toNat)) = H40 at h ⊢
  refine r_aload_n 3 dX1_putFirst_72 rfl rfl ?_
  refine r_getf cls1 4 dX1_putFirst_73 (by decide) fl_RX1_29 rfl h1 h2 ?_
  refine r_iconst dX1_putFirst_76 (by decide) (by decide) ?_
  refine r_iload 0 dX1_putFirst_77 rfl ?_
  obtain ⟨h41, h⟩ := h
  obtain ⟨n42, h⟩ := h
  obtain ⟨h43, h⟩ := h
  obtain ⟨h44, h⟩ := h
  obtain ⟨h45, h⟩ := h
  refine r_zast n42 dX1_putFirst_79 h41 h43 (by decide) h44 h45 ?_
  replace h := h _ rfl
  generalize upA H40 ((H40 (v0 : Int).toNat 4) : Int).toNat (up1 (H40 ((H40 (v0 : Int).toNat 4) : Int).toNat) (0 : Int).toNat (H ((H (v0 : Int).toNat 4) : Int).toNat (v1 : Int).toNat)) = H46 at h ⊢
  exact r_vret dX1_putFirst_80 rfl ⟨rfl, rfl, h⟩
set_option maxHeartbeats 4000000 in
set_option maxRecDepth 20000 in
theorem eX1_putFirst {d : Nat} {K : Shp} {H : Mem} {q : Mem → Prop} {v0 v1 : Int} (h : inI v1 → Rng K H → FX1_putFirst_0 d K H q v0 v1) : Cv mX1_putFirst d [(2, v0), (0, v1)] K H q := Call.of rfl (Nat.le_of_ble_eq_true rfl) (fun o r => h (o (0, v1) (by simp)) r)
def FX1_choose_0 (d : Nat) (K : Shp) (H : Mem) (q : Mem → Prop) (v0 : Int) (v1 : Int) (v2 : Int) (v3 : Int) (v4 : Int) : Prop := Fr mX1_choose (d + 1) 0 0 none 0 [(0, (2, v0)), (1, (2, v1)), (2, (2, v2)), (3, (0, v3)), (4, (0, v4))] [] K H (qv K q)
def FX1_choose_36 (d : Nat) (K : Shp) (H : Mem) (q : Mem → Prop) (v0 : Int) (v1 : Int) (v2 : Int) (v3 : Int) (v4 : Int) (v5 : Int) : Prop := Fr mX1_choose (d + 1) 0 0 none 36 [(0, (2, v0)), (1, (2, v1)), (2, (2, v2)), (3, (0, v3)), (4, (0, v4)), (5, (0, v5))] [] K H (qv K q)
set_option maxHeartbeats 4000000 in
set_option maxRecDepth 20000 in
theorem bX1_choose_0 {d : Nat} {K : Shp} {H : Mem} {q : Mem → Prop} {v0 v1 v2 v3 v4 : Int} (h : ((0 : Int) ≤ v1) ∧ (K[(v1 : Int).toNat]? = some (4, 18)) ∧ ((¬ (v3 : Int) < (H (v1 : Int).toNat 7) → ((0 : Int) ≤ v0) ∧ (K[(v0 : Int).toNat]? = some (1, 8)) ∧ Cv mX1_keep d [(2, v0), (2, v1), (0, v4)] K H (fun H6 => q H6)) ∧ ((v3 : Int) < (H (v1 : Int).toNat 7) → (((v3 : Int) < 6 → ((0 : Int) ≤ v0) ∧ (K[(v0 : Int).toNat]? = some (1, 8)) ∧ Cv mX1_attempt d [(2, v0), (2, v1), (2, v2), (0, v3), (0, v4), (0, (-2))] K H (fun H11 => FX1_choose_36 d K H11 q (v0) (v1) (v2) (v3) (v4) (0))) ∧ (¬ (v3 : Int) < 6 → ((0 : Int) ≤ v0) ∧ (K[(v0 : Int).toNat]? = some (1, 8)) ∧ Cv mX1_keep d [(2, v0), (2, v1), (0, v4)] K H (fun H15 => q H15)))))) : FX1_choose_0 d K H q (v0) (v1) (v2) (v3) (v4) := by
  unfold FX1_choose_0
  refine r_iload_n 3 dX1_choose_0 rfl rfl ?_
  refine r_aload_n 1 dX1_choose_1 rfl rfl ?_
  obtain ⟨h1, h⟩ := h
  obtain ⟨h2, h⟩ := h
  refine r_getf cls4 7 dX1_choose_2 (by decide) fl_RX1_105 rfl h1 h2 ?_
  refine r_icmp_ge (tgt := 14) dX1_choose_5 (by decide) (fun c3 => ?_) (fun c3 => ?_)
  · replace h := h.1 c3
    refine r_aload_n 0 dX1_choose_14 rfl rfl ?_
    refine r_aload_n 1 dX1_choose_15 rfl rfl ?_
    refine r_iload 4 dX1_choose_16 rfl ?_
    obtain ⟨h4, h⟩ := h
    obtain ⟨h5, h⟩ := h
    refine r_invV (M := mX1_choose) (As := [(2, v1), (0, v4)]) (st := []) (X := v0) (mc := 0) (ms := 0) (fc := 0) (fs := 0) h ok_X1_keep cls1 im_X1_keep se_X1_keep ml_RX1_108 dX1_choose_18 rfl h4 h5 (Nat.le_of_ble_eq_true rfl) rfl ?_
    rintro r K1 H6 ⟨rfl, rfl, h⟩ -
    show Fr mX1_choose (d + 1) 0 0 none 21 [(0, (2, v0)), (1, (2, v1)), (2, (2, v2)), (3, (0, v3)), (4, (0, v4))] [] _ H6 _
    exact r_vret dX1_choose_21 rfl ⟨rfl, rfl, h⟩
  · replace h := h.2 c3
    refine r_iload_n 3 dX1_choose_8 rfl rfl ?_
    refine r_bipush dX1_choose_9 (by decide) (by decide) ?_
    refine r_icmp_lt (tgt := 22) dX1_choose_11 (by decide) (fun c8 => ?_) (fun c8 => ?_)
    · replace h := h.1 c8
      refine r_aload_n 0 dX1_choose_22 rfl rfl ?_
      refine r_aload_n 1 dX1_choose_23 rfl rfl ?_
      refine r_aload_n 2 dX1_choose_24 rfl rfl ?_
      refine r_iload_n 3 dX1_choose_25 rfl rfl ?_
      refine r_iload 4 dX1_choose_26 rfl ?_
      refine r_bipush dX1_choose_28 (by decide) (by decide) ?_
      obtain ⟨h9, h⟩ := h
      obtain ⟨h10, h⟩ := h
      refine r_invV (M := mX1_choose) (As := [(2, v1), (2, v2), (0, v3), (0, v4), (0, (-2))]) (st := []) (X := v0) (mc := 0) (ms := 0) (fc := 0) (fs := 0) h ok_X1_attempt cls1 im_X1_attempt se_X1_attempt ml_RX1_112 dX1_choose_30 rfl h9 h10 (Nat.le_of_ble_eq_true rfl) rfl ?_
      rintro r K1 H11 ⟨rfl, rfl, h⟩ -
      show Fr mX1_choose (d + 1) 0 0 none 33 [(0, (2, v0)), (1, (2, v1)), (2, (2, v2)), (3, (0, v3)), (4, (0, v4))] [] _ H11 _
      refine r_iconst dX1_choose_33 (by decide) (by decide) ?_
      refine r_istore dX1_choose_34 (by decide) rfl ?_
      refine Fr.fewer [1, 2, 3, 4, 5, 0] rfl ?_
      exact h
    · replace h := h.2 c8
      refine r_aload_n 0 dX1_choose_14 rfl rfl ?_
      refine r_aload_n 1 dX1_choose_15 rfl rfl ?_
      refine r_iload 4 dX1_choose_16 rfl ?_
      obtain ⟨h13, h⟩ := h
      obtain ⟨h14, h⟩ := h
      refine r_invV (M := mX1_choose) (As := [(2, v1), (0, v4)]) (st := []) (X := v0) (mc := 0) (ms := 0) (fc := 0) (fs := 0) h ok_X1_keep cls1 im_X1_keep se_X1_keep ml_RX1_108 dX1_choose_18 rfl h13 h14 (Nat.le_of_ble_eq_true rfl) rfl ?_
      rintro r K1 H15 ⟨rfl, rfl, h⟩ -
      show Fr mX1_choose (d + 1) 0 0 none 21 [(0, (2, v0)), (1, (2, v1)), (2, (2, v2)), (3, (0, v3)), (4, (0, v4))] [] _ H15 _
      exact r_vret dX1_choose_21 rfl ⟨rfl, rfl, h⟩
set_option maxHeartbeats 4000000 in
set_option maxRecDepth 20000 in
theorem bX1_choose_36 {d : Nat} {K : Shp} {H : Mem} {q : Mem → Prop} {v0 v1 v2 v3 v4 v5 : Int} (h : ((0 : Int) ≤ v2) ∧ (K[(v2 : Int).toNat]? = some (6, 3)) ∧ ((¬ (v5 : Int) < (H (v2 : Int).toNat 0) → ((0 : Int) ≤ v0) ∧ (K[(v0 : Int).toNat]? = some (1, 8)) ∧ ((0 : Int) ≤ (H (v0 : Int).toNat 6)) ∧ ∃ n7 : Nat, (K[((H (v0 : Int).toNat 6) : Int).toNat]? = some (20, n7)) ∧ ((0 : Int) ≤ v3) ∧ ((v3 : Int) < n7) ∧ ∀ H11 : Mem, H11 = upA H ((H (v0 : Int).toNat 6) : Int).toNat (up1 (H ((H (v0 : Int).toNat 6) : Int).toNat) (v3 : Int).toNat (H (v0 : Int).toNat 5)) → q H11) ∧ ((v5 : Int) < (H (v2 : Int).toNat 0) → ((0 : Int) ≤ v0) ∧ (K[(v0 : Int).toNat]? = some (1, 8)) ∧ Cv mX1_attempt d [(2, v0), (2, v1), (2, v2), (0, v3), (0, v4), (0, v5)] K H (fun H14 => (inI (v5 + 1)) ∧ FX1_choose_36 d K H14 q (v0) (v1) (v2) (v3) (v4) ((v5 + 1)))))) : FX1_choose_36 d K H q (v0) (v1) (v2) (v3) (v4) (v5) := by
  unfold FX1_choose_36
  refine r_iload 5 dX1_choose_36 rfl ?_
  refine r_aload_n 2 dX1_choose_38 rfl rfl ?_
  obtain ⟨h1, h⟩ := h
  obtain ⟨h2, h⟩ := h
  refine r_getf cls6 0 dX1_choose_39 (by decide) fl_RX1_116 rfl h1 h2 ?_
  refine r_icmp_ge (tgt := 62) dX1_choose_42 (by decide) (fun c3 => ?_) (fun c3 => ?_)
  · replace h := h.1 c3
    refine r_aload_n 0 dX1_choose_62 rfl rfl ?_
    obtain ⟨h4, h⟩ := h
    obtain ⟨h5, h⟩ := h
    refine r_getf cls1 6 dX1_choose_63 (by decide) fl_RX1_36 rfl h4 h5 ?_
    refine r_iload_n 3 dX1_choose_66 rfl rfl ?_
    refine r_aload_n 0 dX1_choose_67 rfl rfl ?_
    refine r_getf cls1 5 dX1_choose_68 (by decide) fl_RX1_33 rfl h4 h5 ?_
    obtain ⟨h6, h⟩ := h
    obtain ⟨n7, h⟩ := h
    obtain ⟨h8, h⟩ := h
    obtain ⟨h9, h⟩ := h
    obtain ⟨h10, h⟩ := h
    refine r_iast n7 dX1_choose_71 h6 h8 h9 h10 ?_
    replace h := h _ rfl
    generalize upA H ((H (v0 : Int).toNat 6) : Int).toNat (up1 (H ((H (v0 : Int).toNat 6) : Int).toNat) (v3 : Int).toNat (H (v0 : Int).toNat 5)) = H11 at h ⊢
    exact r_vret dX1_choose_72 rfl ⟨rfl, rfl, h⟩
  · replace h := h.2 c3
    refine r_aload_n 0 dX1_choose_45 rfl rfl ?_
    refine r_aload_n 1 dX1_choose_46 rfl rfl ?_
    refine r_aload_n 2 dX1_choose_47 rfl rfl ?_
    refine r_iload_n 3 dX1_choose_48 rfl rfl ?_
    refine r_iload 4 dX1_choose_49 rfl ?_
    refine r_iload 5 dX1_choose_51 rfl ?_
    obtain ⟨h12, h⟩ := h
    obtain ⟨h13, h⟩ := h
    refine r_invV (M := mX1_choose) (As := [(2, v1), (2, v2), (0, v3), (0, v4), (0, v5)]) (st := []) (X := v0) (mc := 0) (ms := 0) (fc := 0) (fs := 0) h ok_X1_attempt cls1 im_X1_attempt se_X1_attempt ml_RX1_112 dX1_choose_53 rfl h12 h13 (Nat.le_of_ble_eq_true rfl) rfl ?_
    rintro r K1 H14 ⟨rfl, rfl, h⟩ -
    show Fr mX1_choose (d + 1) 0 0 none 56 [(0, (2, v0)), (1, (2, v1)), (2, (2, v2)), (3, (0, v3)), (4, (0, v4)), (5, (0, v5))] [] _ H14 _
    obtain ⟨h16, h⟩ := h
    refine r_iinc 5 dX1_choose_56 (by decide) rfl h16 rfl ?_
    refine r_goto (tgt := 36) dX1_choose_59 (by decide) ?_
    refine Fr.fewer [1, 2, 3, 4, 5, 0] rfl ?_
    exact h
set_option maxHeartbeats 4000000 in
set_option maxRecDepth 20000 in
theorem eX1_choose {d : Nat} {K : Shp} {H : Mem} {q : Mem → Prop} {v0 v1 v2 v3 v4 : Int} (h : inI v3 → inI v4 → Rng K H → FX1_choose_0 d K H q v0 v1 v2 v3 v4) : Cv mX1_choose (d + 1) [(2, v0), (2, v1), (2, v2), (0, v3), (0, v4)] K H q := Call.of rfl (Nat.le_of_ble_eq_true rfl) (fun o r => h (o (0, v3) (by simp)) (o (0, v4) (by simp)) r)
def FX1_attempt_0 (d : Nat) (K : Shp) (H : Mem) (q : Mem → Prop) (v0 : Int) (v1 : Int) (v2 : Int) (v3 : Int) (v4 : Int) (v5 : Int) : Prop := Fr mX1_attempt (d + 1) 0 0 none 0 [(0, (2, v0)), (1, (2, v1)), (2, (2, v2)), (3, (0, v3)), (4, (0, v4)), (5, (0, v5))] [] K H (qv K q)
set_option maxHeartbeats 4000000 in
set_option maxRecDepth 20000 in
theorem bX1_attempt_0 {d : Nat} {K : Shp} {H : Mem} {q : Mem → Prop} {v0 v1 v2 v3 v4 v5 : Int} (h : ((0 : Int) ≤ v2) ∧ (K[(v2 : Int).toNat]? = some (6, 3)) ∧ Ci mX6_priceOf d [(2, v2), (0, v5)] K H (fun x4 H3 => (inI (v4 + x4)) ∧ ((0 : Int) ≤ v1) ∧ (K[(v1 : Int).toNat]? = some (4, 18)) ∧ ((¬ ((v4 + x4) : Int) < (H3 (v1 : Int).toNat 16) → q H3) ∧ (((v4 + x4) : Int) < (H3 (v1 : Int).toNat 16) → Ci mX6_isIdle d [(2, v2), (0, v5)] K H3 (fun x10 H9 => (((x10 : Int) = 0 → ((0 : Int) ≤ v0) ∧ (K[(v0 : Int).toNat]? = some (1, 8)) ∧ ((0 : Int) ≤ (H9 (v0 : Int).toNat 7)) ∧ ∃ n15 : Nat, (K[((H9 (v0 : Int).toNat 7) : Int).toNat]? = some (20, n15)) ∧ ((0 : Int) ≤ v3) ∧ ((v3 : Int) < n15) ∧ ∀ H19 : Mem, H19 = upA H9 ((H9 (v0 : Int).toNat 7) : Int).toNat (up1 (H9 ((H9 (v0 : Int).toNat 7) : Int).toNat) (v3 : Int).toNat v5) → Ci mX6_strengthOf d [(2, v2), (0, v5)] K H19 (fun x21 H20 => ((0 : Int) ≤ (H19 (v0 : Int).toNat 6)) ∧ ∃ n23 : Nat, (K[((H19 (v0 : Int).toNat 6) : Int).toNat]? = some (20, n23)) ∧ ((v3 : Int) < n23) ∧ ∀ H26 : Mem, H26 = upA H20 ((H19 (v0 : Int).toNat 6) : Int).toNat (up1 (H20 ((H19 (v0 : Int).toNat 6) : Int).toNat) (v3 : Int).toNat x21) → ((0 : Int) ≤ (H26 (v0 : Int).toNat 6)) ∧ ∃ n28 : Nat, (K[((H26 (v0 : Int).toNat 6) : Int).toNat]? = some (20, n28)) ∧ ((v3 : Int) < n28) ∧ ((((H26 ((H26 (v0 : Int).toNat 6) : Int).toNat (v3 : Int).toNat) : Int) = (H26 (v0 : Int).toNat 5) → (inI (v3 + 1)) ∧ Cv mX1_choose d [(2, v0), (2, v1), (2, v2), (0, (v3 + 1)), (0, (v4 + x4))] K H26 (fun H33 => q H33)) ∧ (¬ ((H26 ((H26 (v0 : Int).toNat 6) : Int).toNat (v3 : Int).toNat) : Int) = (H26 (v0 : Int).toNat 5) → Ci mX1_bearsAll d [(2, v0), (2, v1)] K H26 (fun x36 H35 => (((x36 : Int) = 0 → q H35) ∧ (¬ (x36 : Int) = 0 → (inI (v3 + 1)) ∧ Cv mX1_choose d [(2, v0), (2, v1), (2, v2), (0, (v3 + 1)), (0, (v4 + x4))] K H35 (fun H39 => q H39)))))))) ∧ (¬ (x10 : Int) = 0 → q H9))))))) : FX1_attempt_0 d K H q (v0) (v1) (v2) (v3) (v4) (v5) := by
  unfold FX1_attempt_0
  refine r_iload 4 dX1_attempt_0 rfl ?_
  refine r_aload_n 2 dX1_attempt_2 rfl rfl ?_
  refine r_iload 5 dX1_attempt_3 rfl ?_
  obtain ⟨h1, h⟩ := h
  obtain ⟨h2, h⟩ := h
  refine r_invV (M := mX1_attempt) (As := [(0, v5)]) (st := [(0, v4)]) (X := v2) (mc := 0) (ms := 0) (fc := 0) (fs := 0) h ok_X6_priceOf cls6 im_X6_priceOf se_X6_priceOf ml_RX1_117 dX1_attempt_5 rfl h1 h2 (Nat.le_of_ble_eq_true rfl) rfl ?_
  rintro r K1 H3 ⟨rfl, x4, rfl, h⟩ -
  show Fr mX1_attempt (d + 1) 0 0 none 8 [(0, (2, v0)), (1, (2, v1)), (2, (2, v2)), (3, (0, v3)), (4, (0, v4)), (5, (0, v5))] [(0, x4), (0, v4)] _ H3 _
  obtain ⟨h5, h⟩ := h
  refine r_iadd dX1_attempt_8 h5 ?_
  refine r_istore dX1_attempt_9 (by decide) rfl ?_
  refine r_iload 0 dX1_attempt_11 rfl ?_
  refine r_aload_n 2 dX1_attempt_13 rfl rfl ?_
  obtain ⟨h6, h⟩ := h
  obtain ⟨h7, h⟩ := h
  refine r_getf cls4 16 dX1_attempt_14 (by decide) fl_RX1_67 rfl h6 h7 ?_
  refine r_icmp_ge (tgt := 29) dX1_attempt_17 (by decide) (fun c8 => ?_) (fun c8 => ?_)
  · replace h := h.1 c8
    exact r_vret dX1_attempt_29 rfl ⟨rfl, rfl, h⟩
  · replace h := h.2 c8
    refine r_aload_n 3 dX1_attempt_20 rfl rfl ?_
    refine r_iload 6 dX1_attempt_21 rfl ?_
    refine r_invV (M := mX1_attempt) (As := [(0, v5)]) (st := []) (X := v2) (mc := 0) (ms := 0) (fc := 0) (fs := 0) h ok_X6_isIdle cls6 im_X6_isIdle se_X6_isIdle ml_RX1_121 dX1_attempt_23 rfl h1 h2 (Nat.le_of_ble_eq_true rfl) rfl ?_
    rintro r K1 H9 ⟨rfl, x10, rfl, h⟩ -
    show Fr mX1_attempt (d + 1) 0 0 none 26 [(6, (0, (v4 + x4))), (0, (2, v0)), (1, (2, v1)), (2, (2, v2)), (3, (0, v3)), (4, (0, v4)), (5, (0, v5))] [(0, x10)] _ H9 _
    refine r_if_eq (tgt := 30) dX1_attempt_26 (by decide) (fun c11 => ?_) (fun c11 => ?_)
    · replace h := h.1 c11
      refine r_aload_n 1 dX1_attempt_30 rfl rfl ?_
      obtain ⟨h12, h⟩ := h
      obtain ⟨h13, h⟩ := h
      refine r_getf cls1 7 dX1_attempt_31 (by decide) fl_RX1_39 rfl h12 h13 ?_
      refine r_iload_n 4 dX1_attempt_34 rfl rfl ?_
      refine r_iload 6 dX1_attempt_35 rfl ?_
      obtain ⟨h14, h⟩ := h
      obtain ⟨n15, h⟩ := h
      obtain ⟨h16, h⟩ := h
      obtain ⟨h17, h⟩ := h
      obtain ⟨h18, h⟩ := h
      refine r_iast n15 dX1_attempt_37 h14 h16 h17 h18 ?_
      replace h := h _ rfl
      generalize upA H9 ((H9 (v0 : Int).toNat 7) : Int).toNat (up1 (H9 ((H9 (v0 : Int).toNat 7) : Int).toNat) (v3 : Int).toNat v5) = H19 at h ⊢
      refine r_aload_n 1 dX1_attempt_38 rfl rfl ?_
      refine r_getf cls1 6 dX1_attempt_39 (by decide) fl_RX1_36 rfl h12 h13 ?_
      refine r_iload_n 4 dX1_attempt_42 rfl rfl ?_
      refine r_aload_n 3 dX1_attempt_43 rfl rfl ?_
      refine r_iload 6 dX1_attempt_44 rfl ?_
      refine r_invV (M := mX1_attempt) (As := [(0, v5)]) (st := [(0, v3), (2, (H19 (v0 : Int).toNat 6))]) (X := v2) (mc := 0) (ms := 0) (fc := 0) (fs := 0) h ok_X6_strengthOf cls6 im_X6_strengthOf se_X6_strengthOf ml_RX1_125 dX1_attempt_46 rfl h1 h2 (Nat.le_of_ble_eq_true rfl) rfl ?_
      rintro r K1 H20 ⟨rfl, x21, rfl, h⟩ -
      show Fr mX1_attempt (d + 1) 0 0 none 49 [(6, (0, (v4 + x4))), (0, (2, v0)), (1, (2, v1)), (2, (2, v2)), (3, (0, v3)), (4, (0, v4)), (5, (0, v5))] [(0, x21), (0, v3), (2, (H19 (v0 : Int).toNat 6))] _ H20 _
      obtain ⟨h22, h⟩ := h
      obtain ⟨n23, h⟩ := h
      obtain ⟨h24, h⟩ := h
      obtain ⟨h25, h⟩ := h
      refine r_iast n23 dX1_attempt_49 h22 h24 h17 h25 ?_
      replace h := h _ rfl
      generalize upA H20 ((H19 (v0 : Int).toNat 6) : Int).toNat (up1 (H20 ((H19 (v0 : Int).toNat 6) : Int).toNat) (v3 : Int).toNat x21) = H26 at h ⊢
      refine r_aload_n 1 dX1_attempt_50 rfl rfl ?_
      refine r_getf cls1 6 dX1_attempt_51 (by decide) fl_RX1_36 rfl h12 h13 ?_
      refine r_iload_n 4 dX1_attempt_54 rfl rfl ?_
      obtain ⟨h27, h⟩ := h
      obtain ⟨n28, h⟩ := h
      obtain ⟨h29, h⟩ := h
      obtain ⟨h30, h⟩ := h
      refine r_iald n28 dX1_attempt_55 h27 h29 h17 h30 ?_
      refine r_aload_n 1 dX1_attempt_56 rfl rfl ?_
      refine r_getf cls1 5 dX1_attempt_57 (by decide) fl_RX1_33 rfl h12 h13 ?_
      refine r_icmp_eq (tgt := 71) dX1_attempt_60 (by decide) (fun c31 => ?_) (fun c31 => ?_)
      · replace h := h.1 c31
        refine r_aload_n 1 dX1_attempt_71 rfl rfl ?_
        refine r_aload_n 2 dX1_attempt_72 rfl rfl ?_
        refine r_aload_n 3 dX1_attempt_73 rfl rfl ?_
        refine r_iload_n 4 dX1_attempt_74 rfl rfl ?_
        refine r_iconst dX1_attempt_75 (by decide) (by decide) ?_
        obtain ⟨h32, h⟩ := h
        refine r_iadd dX1_attempt_76 h32 ?_
        refine r_iload 0 dX1_attempt_77 rfl ?_
        refine r_invV (M := mX1_attempt) (As := [(2, v1), (2, v2), (0, (v3 + 1)), (0, (v4 + x4))]) (st := []) (X := v0) (mc := 0) (ms := 0) (fc := 0) (fs := 0) h ok_X1_choose cls1 im_X1_choose se_X1_choose ml_RX1_74 dX1_attempt_79 rfl h12 h13 (Nat.le_of_ble_eq_true rfl) rfl ?_
        rintro r K1 H33 ⟨rfl, rfl, h⟩ -
        show Fr mX1_attempt (d + 1) 0 0 none 82 [(6, (0, (v4 + x4))), (0, (2, v0)), (1, (2, v1)), (2, (2, v2)), (3, (0, v3)), (4, (0, v4)), (5, (0, v5))] [] _ H33 _
        exact r_vret dX1_attempt_82 rfl ⟨rfl, rfl, h⟩
      · replace h := h.2 c31
        refine r_aload_n 1 dX1_attempt_63 rfl rfl ?_
        refine r_aload_n 2 dX1_attempt_64 rfl rfl ?_
        refine r_invV (M := mX1_attempt) (As := [(2, v1)]) (st := []) (X := v0) (mc := 0) (ms := 0) (fc := 0) (fs := 0) h ok_X1_bearsAll cls1 im_X1_bearsAll se_X1_bearsAll ml_RX1_70 dX1_attempt_65 rfl h12 h13 (Nat.le_of_ble_eq_true rfl) rfl ?_
        rintro r K1 H35 ⟨rfl, x36, rfl, h⟩ -
        show Fr mX1_attempt (d + 1) 0 0 none 68 [(6, (0, (v4 + x4))), (0, (2, v0)), (1, (2, v1)), (2, (2, v2)), (3, (0, v3)), (4, (0, v4)), (5, (0, v5))] [(0, x36)] _ H35 _
        refine r_if_eq (tgt := 82) dX1_attempt_68 (by decide) (fun c37 => ?_) (fun c37 => ?_)
        · replace h := h.1 c37
          exact r_vret dX1_attempt_82 rfl ⟨rfl, rfl, h⟩
        · replace h := h.2 c37
          refine r_aload_n 1 dX1_attempt_71 rfl rfl ?_
          refine r_aload_n 2 dX1_attempt_72 rfl rfl ?_
          refine r_aload_n 3 dX1_attempt_73 rfl rfl ?_
          refine r_iload_n 4 dX1_attempt_74 rfl rfl ?_
          refine r_iconst dX1_attempt_75 (by decide) (by decide) ?_
          obtain ⟨h38, h⟩ := h
          refine r_iadd dX1_attempt_76 h38 ?_
          refine r_iload 0 dX1_attempt_77 rfl ?_
          refine r_invV (M := mX1_attempt) (As := [(2, v1), (2, v2), (0, (v3 + 1)), (0, (v4 + x4))]) (st := []) (X := v0) (mc := 0) (ms := 0) (fc := 0) (fs := 0) h ok_X1_choose cls1 im_X1_choose se_X1_choose ml_RX1_74 dX1_attempt_79 rfl h12 h13 (Nat.le_of_ble_eq_true rfl) rfl ?_
          rintro r K1 H39 ⟨rfl, rfl, h⟩ -
          show Fr mX1_attempt (d + 1) 0 0 none 82 [(6, (0, (v4 + x4))), (0, (2, v0)), (1, (2, v1)), (2, (2, v2)), (3, (0, v3)), (4, (0, v4)), (5, (0, v5))] [] _ H39 _
          exact r_vret dX1_attempt_82 rfl ⟨rfl, rfl, h⟩
    · replace h := h.2 c11
      exact r_vret dX1_attempt_29 rfl ⟨rfl, rfl, h⟩
set_option maxHeartbeats 4000000 in
set_option maxRecDepth 20000 in
theorem eX1_attempt {d : Nat} {K : Shp} {H : Mem} {q : Mem → Prop} {v0 v1 v2 v3 v4 v5 : Int} (h : inI v3 → inI v4 → inI v5 → Rng K H → FX1_attempt_0 d K H q v0 v1 v2 v3 v4 v5) : Cv mX1_attempt (d + 1) [(2, v0), (2, v1), (2, v2), (0, v3), (0, v4), (0, v5)] K H q := Call.of rfl (Nat.le_of_ble_eq_true rfl) (fun o r => h (o (0, v3) (by simp)) (o (0, v4) (by simp)) (o (0, v5) (by simp)) r)
def FX1_keep_0 (d : Nat) (K : Shp) (H : Mem) (q : Mem → Prop) (v0 : Int) (v1 : Int) (v2 : Int) : Prop := Fr mX1_keep (d + 1) 0 0 none 0 [(0, (2, v0)), (1, (2, v1)), (2, (0, v2))] [] K H (qv K q)
set_option maxHeartbeats 4000000 in
set_option maxRecDepth 20000 in
theorem bX1_keep_0 {d : Nat} {K : Shp} {H : Mem} {q : Mem → Prop} {v0 v1 v2 : Int} (h : ((0 : Int) ≤ v1) ∧ (K[(v1 : Int).toNat]? = some (4, 18)) ∧ ∀ H3 : Mem, H3 = upA H (v1 : Int).toNat (up1 (H (v1 : Int).toNat) 15 1) → ∀ H4 : Mem, H4 = upA H3 (v1 : Int).toNat (up1 (H3 (v1 : Int).toNat) 16 v2) → ((0 : Int) ≤ v0) ∧ (K[(v0 : Int).toNat]? = some (1, 8)) ∧ ((0 : Int) ≤ (H4 (v0 : Int).toNat 7)) ∧ ∃ n8 : Nat, (K[((H4 (v0 : Int).toNat 7) : Int).toNat]? = some (20, n8)) ∧ ((0 : Int) ≤ (H4 (v1 : Int).toNat 17)) ∧ ∃ n11 : Nat, (K[((H4 (v1 : Int).toNat 17) : Int).toNat]? = some (20, n11)) ∧ ((0 : Int) + 6 ≤ n8) ∧ ((0 : Int) + 6 ≤ n11) ∧ ∀ H15 : Mem, H15 = upA H4 ((H4 (v1 : Int).toNat 17) : Int).toNat (va_cpy (H4 ((H4 (v0 : Int).toNat 7) : Int).toNat) (H4 ((H4 (v1 : Int).toNat 17) : Int).toNat) (0 : Int).toNat (0 : Int).toNat (6 : Int).toNat) → q H15) : FX1_keep_0 d K H q (v0) (v1) (v2) := by
  unfold FX1_keep_0
  refine r_aload_n 1 dX1_keep_0 rfl rfl ?_
  refine r_iconst dX1_keep_1 (by decide) (by decide) ?_
  obtain ⟨h1, h⟩ := h
  obtain ⟨h2, h⟩ := h
  refine r_putf cls4 15 dX1_keep_2 (by decide) rfl fl_RX1_48 rfl h1 h2 (fun _ => Or.inr rfl) ?_
  replace h := h _ rfl
  generalize upA H (v1 : Int).toNat (up1 (H (v1 : Int).toNat) 15 1) = H3 at h ⊢
  refine r_aload_n 1 dX1_keep_5 rfl rfl ?_
  refine r_iload_n 2 dX1_keep_6 rfl rfl ?_
  refine r_putf cls4 16 dX1_keep_7 (by decide) rfl fl_RX1_67 rfl h1 h2 (fun o => o) ?_
  replace h := h _ rfl
  generalize upA H3 (v1 : Int).toNat (up1 (H3 (v1 : Int).toNat) 16 v2) = H4 at h ⊢
  refine r_aload_n 0 dX1_keep_10 rfl rfl ?_
  obtain ⟨h5, h⟩ := h
  obtain ⟨h6, h⟩ := h
  refine r_getf cls1 7 dX1_keep_11 (by decide) fl_RX1_39 rfl h5 h6 ?_
  refine r_iconst dX1_keep_14 (by decide) (by decide) ?_
  refine r_aload_n 1 dX1_keep_15 rfl rfl ?_
  refine r_getf cls4 17 dX1_keep_16 (by decide) fl_RX1_128 rfl h1 h2 ?_
  refine r_iconst dX1_keep_19 (by decide) (by decide) ?_
  refine r_bipush dX1_keep_20 (by decide) (by decide) ?_
  obtain ⟨h7, h⟩ := h
  obtain ⟨n8, h⟩ := h
  obtain ⟨h9, h⟩ := h
  obtain ⟨h10, h⟩ := h
  obtain ⟨n11, h⟩ := h
  obtain ⟨h12, h⟩ := h
  obtain ⟨h13, h⟩ := h
  obtain ⟨h14, h⟩ := h
  refine r_copyi n8 n11 dX1_keep_22 ml_RX1_131 h7 h9 h10 h12 (by decide) (by decide) (by decide) h13 h14 (Nat.le_of_ble_eq_true rfl) ?_
  replace h := h _ rfl
  generalize upA H4 ((H4 (v1 : Int).toNat 17) : Int).toNat (va_cpy (H4 ((H4 (v0 : Int).toNat 7) : Int).toNat) (H4 ((H4 (v1 : Int).toNat 17) : Int).toNat) (0 : Int).toNat (0 : Int).toNat (6 : Int).toNat) = H15 at h ⊢
  exact r_vret dX1_keep_25 rfl ⟨rfl, rfl, h⟩
set_option maxHeartbeats 4000000 in
set_option maxRecDepth 20000 in
theorem eX1_keep {d : Nat} {K : Shp} {H : Mem} {q : Mem → Prop} {v0 v1 v2 : Int} (h : inI v2 → Rng K H → FX1_keep_0 d K H q v0 v1 v2) : Cv mX1_keep (d + 1) [(2, v0), (2, v1), (0, v2)] K H q := Call.of rfl (Nat.le_of_ble_eq_true rfl) (fun o r => h (o (0, v2) (by simp)) r)
