/-! printed by gen/emit.py: what a walk from each cut point asks -/
def FX6_add_0 (d : Nat) (K : Shp) (H : Mem) (q : Int → Mem → Prop) (v0 : Int) (v1 : Int) (v2 : Int) : Prop := Fr mX6_add d 0 0 none 0 [(0, (2, v0)), (1, (0, v1)), (2, (0, v2))] [] K H (qi K q)
set_option maxHeartbeats 4000000 in
set_option maxRecDepth 20000 in
theorem bX6_add_0 {d : Nat} {K : Shp} {H : Mem} {q : Int → Mem → Prop} {v0 v1 v2 : Int} (h : ((0 : Int) ≤ v0) ∧ (K[(v0 : Int).toNat]? = some (6, 3)) ∧ ((0 : Int) ≤ (H (v0 : Int).toNat 1)) ∧ ∃ n4 : Nat, (K[((H (v0 : Int).toNat 1) : Int).toNat]? = some (20, n4)) ∧ ((0 : Int) ≤ (H (v0 : Int).toNat 0)) ∧ (((H (v0 : Int).toNat 0) : Int) < n4) ∧ ∀ H8 : Mem, H8 = upA H ((H (v0 : Int).toNat 1) : Int).toNat (up1 (H ((H (v0 : Int).toNat 1) : Int).toNat) ((H (v0 : Int).toNat 0) : Int).toNat v1) → ((0 : Int) ≤ (H8 (v0 : Int).toNat 2)) ∧ ∃ n10 : Nat, (K[((H8 (v0 : Int).toNat 2) : Int).toNat]? = some (20, n10)) ∧ ((0 : Int) ≤ (H8 (v0 : Int).toNat 0)) ∧ (((H8 (v0 : Int).toNat 0) : Int) < n10) ∧ ∀ H14 : Mem, H14 = upA H8 ((H8 (v0 : Int).toNat 2) : Int).toNat (up1 (H8 ((H8 (v0 : Int).toNat 2) : Int).toNat) ((H8 (v0 : Int).toNat 0) : Int).toNat v2) → (inI ((H14 (v0 : Int).toNat 0) + 1)) ∧ ∀ H16 : Mem, H16 = upA H14 (v0 : Int).toNat (up1 (H14 (v0 : Int).toNat) 0 ((H14 (v0 : Int).toNat 0) + 1)) → (inI ((H16 (v0 : Int).toNat 0) - 1)) ∧ q ((H16 (v0 : Int).toNat 0) - 1) H16) : FX6_add_0 d K H q (v0) (v1) (v2) := by
  unfold FX6_add_0
  refine r_aload_n 0 dX6_add_0 rfl rfl ?_
  obtain ⟨h1, h⟩ := h
  obtain ⟨h2, h⟩ := h
  refine r_getf cls6 1 dX6_add_1 (by decide) fl_RX6_15 rfl h1 h2 ?_
  refine r_aload_n 0 dX6_add_4 rfl rfl ?_
  refine r_getf cls6 0 dX6_add_5 (by decide) fl_RX6_9 rfl h1 h2 ?_
  refine r_iload_n 1 dX6_add_8 rfl rfl ?_
  obtain ⟨h3, h⟩ := h
  obtain ⟨n4, h⟩ := h
  obtain ⟨h5, h⟩ := h
  obtain ⟨h6, h⟩ := h
  obtain ⟨h7, h⟩ := h
  refine r_iast n4 dX6_add_9 h3 h5 h6 h7 ?_
  replace h := h _ rfl
  generalize upA H ((H (v0 : Int).toNat 1) : Int).toNat (up1 (H ((H (v0 : Int).toNat 1) : Int).toNat) ((H (v0 : Int).toNat 0) : Int).toNat v1) = H8 at h ⊢
  refine r_aload_n 0 dX6_add_10 rfl rfl ?_
  refine r_getf cls6 2 dX6_add_11 (by decide) fl_RX6_19 rfl h1 h2 ?_
  refine r_aload_n 0 dX6_add_14 rfl rfl ?_
  refine r_getf cls6 0 dX6_add_15 (by decide) fl_RX6_9 rfl h1 h2 ?_
  refine r_iload_n 2 dX6_add_18 rfl rfl ?_
  obtain ⟨h9, h⟩ := h
  obtain ⟨n10, h⟩ := h
  obtain ⟨h11, h⟩ := h
  obtain ⟨h12, h⟩ := h
  obtain ⟨h13, h⟩ := h
  refine r_iast n10 dX6_add_19 h9 h11 h12 h13 ?_
  replace h := h _ rfl
  generalize upA H8 ((H8 (v0 : Int).toNat 2) : Int).toNat (up1 (H8 ((H8 (v0 : Int).toNat 2) : Int).toNat) ((H8 (v0 : Int).toNat 0) : Int).toNat v2) = H14 at h ⊢
  refine r_aload_n 0 dX6_add_20 rfl rfl ?_
  refine r_dup dX6_add_21 (show (2 : Nat) ≠ 1 by decide) ?_
  refine r_getf cls6 0 dX6_add_22 (by decide) fl_RX6_9 rfl h1 h2 ?_
  refine r_iconst dX6_add_25 (by decide) (by decide) ?_
  obtain ⟨h15, h⟩ := h
  refine r_iadd dX6_add_26 h15 ?_
  refine r_putf cls6 0 dX6_add_27 (by decide) rfl fl_RX6_9 rfl h1 h2 (fun o => o) ?_
  replace h := h _ rfl
  generalize upA H14 (v0 : Int).toNat (up1 (H14 (v0 : Int).toNat) 0 ((H14 (v0 : Int).toNat 0) + 1)) = H16 at h ⊢
  refine r_aload_n 0 dX6_add_30 rfl rfl ?_
  refine r_getf cls6 0 dX6_add_31 (by decide) fl_RX6_9 rfl h1 h2 ?_
  refine r_iconst dX6_add_34 (by decide) (by decide) ?_
  obtain ⟨h17, h⟩ := h
  refine r_isub dX6_add_35 h17 ?_
  exact r_iret dX6_add_36 rfl ⟨rfl, _, rfl, h⟩
set_option maxHeartbeats 4000000 in
set_option maxRecDepth 20000 in
theorem eX6_add {d : Nat} {K : Shp} {H : Mem} {q : Int → Mem → Prop} {v0 v1 v2 : Int} (h : inI v1 → inI v2 → Rng K H → FX6_add_0 d K H q v0 v1 v2) : Ci mX6_add d [(2, v0), (0, v1), (0, v2)] K H q := Call.of rfl (Nat.le_of_ble_eq_true rfl) (fun o r => h (o (0, v1) (by simp)) (o (0, v2) (by simp)) r)
def FX6_strengthOf_0 (d : Nat) (K : Shp) (H : Mem) (q : Int → Mem → Prop) (v0 : Int) (v1 : Int) : Prop := Fr mX6_strengthOf d 0 0 none 0 [(0, (2, v0)), (1, (0, v1))] [] K H (qi K q)
set_option maxHeartbeats 4000000 in
set_option maxRecDepth 20000 in
theorem bX6_strengthOf_0 {d : Nat} {K : Shp} {H : Mem} {q : Int → Mem → Prop} {v0 v1 : Int} (h : (((v1 : Int) < 0 → q 0 H) ∧ (¬ (v1 : Int) < 0 → ((0 : Int) ≤ v0) ∧ (K[(v0 : Int).toNat]? = some (6, 3)) ∧ ((¬ (v1 : Int) < (H (v0 : Int).toNat 0) → q 0 H) ∧ ((v1 : Int) < (H (v0 : Int).toNat 0) → ((0 : Int) ≤ (H (v0 : Int).toNat 1)) ∧ ∃ n6 : Nat, (K[((H (v0 : Int).toNat 1) : Int).toNat]? = some (20, n6)) ∧ ((0 : Int) ≤ v1) ∧ ((v1 : Int) < n6) ∧ q (H ((H (v0 : Int).toNat 1) : Int).toNat (v1 : Int).toNat) H))))) : FX6_strengthOf_0 d K H q (v0) (v1) := by
  unfold FX6_strengthOf_0
  refine r_iload_n 1 dX6_strengthOf_0 rfl rfl ?_
  refine r_if_lt (tgt := 21) dX6_strengthOf_1 (by decide) (fun c1 => ?_) (fun c1 => ?_)
  · replace h := h.1 c1
    refine r_iconst dX6_strengthOf_21 (by decide) (by decide) ?_
    exact r_iret dX6_strengthOf_22 rfl ⟨rfl, _, rfl, h⟩
  · replace h := h.2 c1
    refine r_iload_n 1 dX6_strengthOf_4 rfl rfl ?_
    refine r_aload_n 0 dX6_strengthOf_5 rfl rfl ?_
    obtain ⟨h2, h⟩ := h
    obtain ⟨h3, h⟩ := h
    refine r_getf cls6 0 dX6_strengthOf_6 (by decide) fl_RX6_9 rfl h2 h3 ?_
    refine r_icmp_ge (tgt := 21) dX6_strengthOf_9 (by decide) (fun c4 => ?_) (fun c4 => ?_)
    · replace h := h.1 c4
      refine r_iconst dX6_strengthOf_21 (by decide) (by decide) ?_
      exact r_iret dX6_strengthOf_22 rfl ⟨rfl, _, rfl, h⟩
    · replace h := h.2 c4
      refine r_aload_n 0 dX6_strengthOf_12 rfl rfl ?_
      refine r_getf cls6 1 dX6_strengthOf_13 (by decide) fl_RX6_15 rfl h2 h3 ?_
      refine r_iload_n 1 dX6_strengthOf_16 rfl rfl ?_
      obtain ⟨h5, h⟩ := h
      obtain ⟨n6, h⟩ := h
      obtain ⟨h7, h⟩ := h
      obtain ⟨h8, h⟩ := h
      obtain ⟨h9, h⟩ := h
      refine r_iald n6 dX6_strengthOf_17 h5 h7 h8 h9 ?_
      refine r_goto (tgt := 22) dX6_strengthOf_18 (by decide) ?_
      exact r_iret dX6_strengthOf_22 rfl ⟨rfl, _, rfl, h⟩
set_option maxHeartbeats 4000000 in
set_option maxRecDepth 20000 in
theorem eX6_strengthOf {d : Nat} {K : Shp} {H : Mem} {q : Int → Mem → Prop} {v0 v1 : Int} (h : inI v1 → Rng K H → FX6_strengthOf_0 d K H q v0 v1) : Ci mX6_strengthOf d [(2, v0), (0, v1)] K H q := Call.of rfl (Nat.le_of_ble_eq_true rfl) (fun o r => h (o (0, v1) (by simp)) r)
def FX6_priceOf_0 (d : Nat) (K : Shp) (H : Mem) (q : Int → Mem → Prop) (v0 : Int) (v1 : Int) : Prop := Fr mX6_priceOf d 0 0 none 0 [(0, (2, v0)), (1, (0, v1))] [] K H (qi K q)
set_option maxHeartbeats 4000000 in
set_option maxRecDepth 20000 in
theorem bX6_priceOf_0 {d : Nat} {K : Shp} {H : Mem} {q : Int → Mem → Prop} {v0 v1 : Int} (h : (((v1 : Int) < 0 → q 0 H) ∧ (¬ (v1 : Int) < 0 → ((0 : Int) ≤ v0) ∧ (K[(v0 : Int).toNat]? = some (6, 3)) ∧ ((¬ (v1 : Int) < (H (v0 : Int).toNat 0) → q 0 H) ∧ ((v1 : Int) < (H (v0 : Int).toNat 0) → ((0 : Int) ≤ (H (v0 : Int).toNat 2)) ∧ ∃ n6 : Nat, (K[((H (v0 : Int).toNat 2) : Int).toNat]? = some (20, n6)) ∧ ((0 : Int) ≤ v1) ∧ ((v1 : Int) < n6) ∧ q (H ((H (v0 : Int).toNat 2) : Int).toNat (v1 : Int).toNat) H))))) : FX6_priceOf_0 d K H q (v0) (v1) := by
  unfold FX6_priceOf_0
  refine r_iload_n 1 dX6_priceOf_0 rfl rfl ?_
  refine r_if_lt (tgt := 21) dX6_priceOf_1 (by decide) (fun c1 => ?_) (fun c1 => ?_)
  · replace h := h.1 c1
    refine r_iconst dX6_priceOf_21 (by decide) (by decide) ?_
    exact r_iret dX6_priceOf_22 rfl ⟨rfl, _, rfl, h⟩
  · replace h := h.2 c1
    refine r_iload_n 1 dX6_priceOf_4 rfl rfl ?_
    refine r_aload_n 0 dX6_priceOf_5 rfl rfl ?_
    obtain ⟨h2, h⟩ := h
    obtain ⟨h3, h⟩ := h
    refine r_getf cls6 0 dX6_priceOf_6 (by decide) fl_RX6_9 rfl h2 h3 ?_
    refine r_icmp_ge (tgt := 21) dX6_priceOf_9 (by decide) (fun c4 => ?_) (fun c4 => ?_)
    · replace h := h.1 c4
      refine r_iconst dX6_priceOf_21 (by decide) (by decide) ?_
      exact r_iret dX6_priceOf_22 rfl ⟨rfl, _, rfl, h⟩
    · replace h := h.2 c4
      refine r_aload_n 0 dX6_priceOf_12 rfl rfl ?_
      refine r_getf cls6 2 dX6_priceOf_13 (by decide) fl_RX6_19 rfl h2 h3 ?_
      refine r_iload_n 1 dX6_priceOf_16 rfl rfl ?_
      obtain ⟨h5, h⟩ := h
      obtain ⟨n6, h⟩ := h
      obtain ⟨h7, h⟩ := h
      obtain ⟨h8, h⟩ := h
      obtain ⟨h9, h⟩ := h
      refine r_iald n6 dX6_priceOf_17 h5 h7 h8 h9 ?_
      refine r_goto (tgt := 22) dX6_priceOf_18 (by decide) ?_
      exact r_iret dX6_priceOf_22 rfl ⟨rfl, _, rfl, h⟩
set_option maxHeartbeats 4000000 in
set_option maxRecDepth 20000 in
theorem eX6_priceOf {d : Nat} {K : Shp} {H : Mem} {q : Int → Mem → Prop} {v0 v1 : Int} (h : inI v1 → Rng K H → FX6_priceOf_0 d K H q v0 v1) : Ci mX6_priceOf d [(2, v0), (0, v1)] K H q := Call.of rfl (Nat.le_of_ble_eq_true rfl) (fun o r => h (o (0, v1) (by simp)) r)
def FX6_strongest_0 (d : Nat) (K : Shp) (H : Mem) (q : Int → Mem → Prop) (v0 : Int) : Prop := Fr mX6_strongest (d + 1) 0 0 none 0 [(0, (2, v0))] [] K H (qi K q)
def FX6_strongest_4 (d : Nat) (K : Shp) (H : Mem) (q : Int → Mem → Prop) (v0 : Int) (v1 : Int) (v2 : Int) : Prop := Fr mX6_strongest (d + 1) 0 0 none 4 [(0, (2, v0)), (1, (0, v1)), (2, (0, v2))] [] K H (qi K q)
set_option maxHeartbeats 4000000 in
set_option maxRecDepth 20000 in
theorem bX6_strongest_0 {d : Nat} {K : Shp} {H : Mem} {q : Int → Mem → Prop} {v0 : Int} (h : FX6_strongest_4 d K H q (v0) (0) (0)) : FX6_strongest_0 d K H q (v0) := by
  unfold FX6_strongest_0
  refine r_iconst dX6_strongest_0 (by decide) (by decide) ?_
  refine r_istore_n dX6_strongest_1 rfl (by decide) rfl ?_
  refine r_iconst dX6_strongest_2 (by decide) (by decide) ?_
  refine r_istore_n dX6_strongest_3 rfl (by decide) rfl ?_
  refine Fr.fewer [2, 1, 0] rfl ?_
  exact h
set_option maxHeartbeats 4000000 in
set_option maxRecDepth 20000 in
theorem bX6_strongest_4 {d : Nat} {K : Shp} {H : Mem} {q : Int → Mem → Prop} {v0 v1 v2 : Int} (h : ((0 : Int) ≤ v0) ∧ (K[(v0 : Int).toNat]? = some (6, 3)) ∧ ((¬ (v2 : Int) < (H (v0 : Int).toNat 0) → q v1 H) ∧ ((v2 : Int) < (H (v0 : Int).toNat 0) → ((0 : Int) ≤ (H (v0 : Int).toNat 1)) ∧ ∃ n5 : Nat, (K[((H (v0 : Int).toNat 1) : Int).toNat]? = some (20, n5)) ∧ ((0 : Int) ≤ v2) ∧ ((v2 : Int) < n5) ∧ (inI (v2 + 1)) ∧ FX6_strongest_4 d K H q (v0) ((max v1 (H ((H (v0 : Int).toNat 1) : Int).toNat (v2 : Int).toNat))) ((v2 + 1))))) : FX6_strongest_4 d K H q (v0) (v1) (v2) := by
  unfold FX6_strongest_4
  refine r_iload_n 2 dX6_strongest_4 rfl rfl ?_
  refine r_aload_n 0 dX6_strongest_5 rfl rfl ?_
  obtain ⟨h1, h⟩ := h
  obtain ⟨h2, h⟩ := h
  refine r_getf cls6 0 dX6_strongest_6 (by decide) fl_RX6_9 rfl h1 h2 ?_
  refine r_icmp_ge (tgt := 29) dX6_strongest_9 (by decide) (fun c3 => ?_) (fun c3 => ?_)
  · replace h := h.1 c3
    refine r_iload_n 1 dX6_strongest_29 rfl rfl ?_
    exact r_iret dX6_strongest_30 rfl ⟨rfl, _, rfl, h⟩
  · replace h := h.2 c3
    refine r_iload_n 1 dX6_strongest_12 rfl rfl ?_
    refine r_aload_n 0 dX6_strongest_13 rfl rfl ?_
    refine r_getf cls6 1 dX6_strongest_14 (by decide) fl_RX6_15 rfl h1 h2 ?_
    refine r_iload_n 2 dX6_strongest_17 rfl rfl ?_
    obtain ⟨h4, h⟩ := h
    obtain ⟨n5, h⟩ := h
    obtain ⟨h6, h⟩ := h
    obtain ⟨h7, h⟩ := h
    obtain ⟨h8, h⟩ := h
    refine r_iald n5 dX6_strongest_18 h4 h6 h7 h8 ?_
    refine r_maxi dX6_strongest_19 ml_RX6_22 (Nat.le_of_ble_eq_true rfl) ?_
    refine r_istore_n dX6_strongest_22 rfl (by decide) rfl ?_
    obtain ⟨h9, h⟩ := h
    refine r_iinc 2 dX6_strongest_23 (by decide) rfl h9 rfl ?_
    refine r_goto (tgt := 4) dX6_strongest_26 (by decide) ?_
    refine Fr.fewer [2, 1, 0] rfl ?_
    exact h
set_option maxHeartbeats 4000000 in
set_option maxRecDepth 20000 in
theorem eX6_strongest {d : Nat} {K : Shp} {H : Mem} {q : Int → Mem → Prop} {v0 : Int} (h : Rng K H → FX6_strongest_0 d K H q v0) : Ci mX6_strongest (d + 1) [(2, v0)] K H q := Call.of rfl (Nat.le_of_ble_eq_true rfl) (fun o r => h  r)
def FX6_isIdle_0 (d : Nat) (K : Shp) (H : Mem) (q : Int → Mem → Prop) (v0 : Int) (v1 : Int) : Prop := Fr mX6_isIdle (d + 1) 0 0 none 0 [(0, (2, v0)), (1, (0, v1))] [] K H (qi K q)
def FX6_isIdle_18 (d : Nat) (K : Shp) (H : Mem) (q : Int → Mem → Prop) (v0 : Int) (v1 : Int) (v2 : Int) (v3 : Int) (v4 : Int) (v5 : Int) : Prop := Fr mX6_isIdle (d + 1) 0 0 none 18 [(0, (2, v0)), (1, (0, v1)), (2, (0, v2)), (3, (0, v3)), (4, (0, v4)), (5, (0, v5))] [] K H (qi K q)
def FX6_isIdle_65 (d : Nat) (K : Shp) (H : Mem) (q : Int → Mem → Prop) (v0 : Int) (v1 : Int) (v2 : Int) (v3 : Int) (v5 : Int) (s0 : Int) : Prop := Fr mX6_isIdle (d + 1) 0 0 none 65 [(0, (2, v0)), (1, (0, v1)), (2, (0, v2)), (3, (0, v3)), (5, (0, v5))] [(0, s0)] K H (qi K q)
def FX6_isIdle_88 (d : Nat) (K : Shp) (H : Mem) (q : Int → Mem → Prop) (v0 : Int) (v1 : Int) (v2 : Int) (v3 : Int) (v5 : Int) (s0 : Int) : Prop := Fr mX6_isIdle (d + 1) 0 0 none 88 [(0, (2, v0)), (1, (0, v1)), (2, (0, v2)), (3, (0, v3)), (5, (0, v5))] [(0, s0)] K H (qi K q)
set_option maxHeartbeats 4000000 in
set_option maxRecDepth 20000 in
theorem bX6_isIdle_0 {d : Nat} {K : Shp} {H : Mem} {q : Int → Mem → Prop} {v0 v1 : Int} (h : ((0 : Int) ≤ v0) ∧ (K[(v0 : Int).toNat]? = some (6, 3)) ∧ Ci mX6_priceOf d [(2, v0), (0, v1)] K H (fun x4 H3 => Ci mX6_strengthOf d [(2, v0), (0, v1)] K H3 (fun x6 H5 => FX6_isIdle_18 d K H5 q (v0) (v1) (x4) (x6) (0) (0)))) : FX6_isIdle_0 d K H q (v0) (v1) := by
  unfold FX6_isIdle_0
  refine r_aload_n 0 dX6_isIdle_0 rfl rfl ?_
  refine r_iload_n 1 dX6_isIdle_1 rfl rfl ?_
  obtain ⟨h1, h⟩ := h
  obtain ⟨h2, h⟩ := h
  refine r_invV (M := mX6_isIdle) (As := [(0, v1)]) (st := []) (X := v0) (mc := 0) (ms := 0) (fc := 0) (fs := 0) h ok_X6_priceOf cls6 im_X6_priceOf se_X6_priceOf ml_RX6_28 dX6_isIdle_2 rfl h1 h2 (Nat.le_of_ble_eq_true rfl) rfl ?_
  rintro r K1 H3 ⟨rfl, x4, rfl, h⟩ -
  show Fr mX6_isIdle (d + 1) 0 0 none 5 [(0, (2, v0)), (1, (0, v1))] [(0, x4)] _ H3 _
  refine r_istore_n dX6_isIdle_5 rfl (by decide) rfl ?_
  refine r_aload_n 1 dX6_isIdle_6 rfl rfl ?_
  refine r_iload_n 2 dX6_isIdle_7 rfl rfl ?_
  refine r_invV (M := mX6_isIdle) (As := [(0, v1)]) (st := []) (X := v0) (mc := 0) (ms := 0) (fc := 0) (fs := 0) h ok_X6_strengthOf cls6 im_X6_strengthOf se_X6_strengthOf ml_RX6_32 dX6_isIdle_8 rfl h1 h2 (Nat.le_of_ble_eq_true rfl) rfl ?_
  rintro r K1 H5 ⟨rfl, x6, rfl, h⟩ -
  show Fr mX6_isIdle (d + 1) 0 0 none 11 [(2, (0, x4)), (0, (2, v0)), (1, (0, v1))] [(0, x6)] _ H5 _
  refine r_istore_n dX6_isIdle_11 rfl (by decide) rfl ?_
  refine r_iconst dX6_isIdle_12 (by decide) (by decide) ?_
  refine r_istore dX6_isIdle_13 (by decide) rfl ?_
  refine r_iconst dX6_isIdle_15 (by decide) (by decide) ?_
  refine r_istore dX6_isIdle_16 (by decide) rfl ?_
  refine Fr.fewer [4, 5, 3, 2, 1, 0] rfl ?_
  exact h
set_option maxHeartbeats 4000000 in
set_option maxRecDepth 20000 in
theorem bX6_isIdle_18 {d : Nat} {K : Shp} {H : Mem} {q : Int → Mem → Prop} {v0 v1 v2 v3 v4 v5 : Int} (h : ((0 : Int) ≤ v0) ∧ (K[(v0 : Int).toNat]? = some (6, 3)) ∧ ((¬ (v5 : Int) < (H (v0 : Int).toNat 0) → ((v4 : Int) = 0 ∨ (v4 : Int) = 1) ∧ q v4 H) ∧ ((v5 : Int) < (H (v0 : Int).toNat 0) → ((¬ (v4 : Int) = 0 → ((v4 : Int) = 0 ∨ (v4 : Int) = 1) ∧ q v4 H) ∧ ((v4 : Int) = 0 → ((0 : Int) ≤ (H (v0 : Int).toNat 2)) ∧ ∃ n8 : Nat, (K[((H (v0 : Int).toNat 2) : Int).toNat]? = some (20, n8)) ∧ ((0 : Int) ≤ v5) ∧ ((v5 : Int) < n8) ∧ ((((H ((H (v0 : Int).toNat 2) : Int).toNat (v5 : Int).toNat) : Int) < v2 → FX6_isIdle_65 d K H q (v0) (v1) (v2) (v3) (v5) (1)) ∧ (¬ ((H ((H (v0 : Int).toNat 2) : Int).toNat (v5 : Int).toNat) : Int) < v2 → ((¬ ((H ((H (v0 : Int).toNat 2) : Int).toNat (v5 : Int).toNat) : Int) = v2 → FX6_isIdle_65 d K H q (v0) (v1) (v2) (v3) (v5) (0)) ∧ (((H ((H (v0 : Int).toNat 2) : Int).toNat (v5 : Int).toNat) : Int) = v2 → ((¬ (v5 : Int) < v1 → FX6_isIdle_65 d K H q (v0) (v1) (v2) (v3) (v5) (0)) ∧ ((v5 : Int) < v1 → FX6_isIdle_65 d K H q (v0) (v1) (v2) (v3) (v5) (1)))))))))))) : FX6_isIdle_18 d K H q (v0) (v1) (v2) (v3) (v4) (v5) := by
  unfold FX6_isIdle_18
  refine r_iload 5 dX6_isIdle_18 rfl ?_
  refine r_aload_n 0 dX6_isIdle_20 rfl rfl ?_
  obtain ⟨h1, h⟩ := h
  obtain ⟨h2, h⟩ := h
  refine r_getf cls6 0 dX6_isIdle_21 (by decide) fl_RX6_9 rfl h1 h2 ?_
  refine r_icmp_ge (tgt := 96) dX6_isIdle_24 (by decide) (fun c3 => ?_) (fun c3 => ?_)
  · replace h := h.1 c3
    refine r_iload 4 dX6_isIdle_96 rfl ?_
    obtain ⟨h4, h⟩ := h
    exact r_zret dX6_isIdle_98 rfl h4 ⟨rfl, _, rfl, h⟩
  · replace h := h.2 c3
    refine r_iload 4 dX6_isIdle_27 rfl ?_
    refine r_if_ne (tgt := 96) dX6_isIdle_29 (by decide) (fun c5 => ?_) (fun c5 => ?_)
    · replace h := h.1 c5
      refine r_iload 4 dX6_isIdle_96 rfl ?_
      obtain ⟨h6, h⟩ := h
      exact r_zret dX6_isIdle_98 rfl h6 ⟨rfl, _, rfl, h⟩
    · replace h := h.2 c5
      refine r_aload_n 0 dX6_isIdle_32 rfl rfl ?_
      refine r_getf cls6 2 dX6_isIdle_33 (by decide) fl_RX6_19 rfl h1 h2 ?_
      refine r_iload 5 dX6_isIdle_36 rfl ?_
      obtain ⟨h7, h⟩ := h
      obtain ⟨n8, h⟩ := h
      obtain ⟨h9, h⟩ := h
      obtain ⟨h10, h⟩ := h
      obtain ⟨h11, h⟩ := h
      refine r_iald n8 dX6_isIdle_38 h7 h9 h10 h11 ?_
      refine r_iload_n 2 dX6_isIdle_39 rfl rfl ?_
      refine r_icmp_lt (tgt := 60) dX6_isIdle_40 (by decide) (fun c12 => ?_) (fun c12 => ?_)
      · replace h := h.1 c12
        refine r_iconst dX6_isIdle_60 (by decide) (by decide) ?_
        refine r_goto (tgt := 65) dX6_isIdle_61 (by decide) ?_
        refine Fr.fewer [0, 1, 2, 3, 5] rfl ?_
        exact h
      · replace h := h.2 c12
        refine r_aload_n 0 dX6_isIdle_43 rfl rfl ?_
        refine r_getf cls6 2 dX6_isIdle_44 (by decide) fl_RX6_19 rfl h1 h2 ?_
        refine r_iload 5 dX6_isIdle_47 rfl ?_
        refine r_iald n8 dX6_isIdle_49 h7 h9 h10 h11 ?_
        refine r_iload_n 2 dX6_isIdle_50 rfl rfl ?_
        refine r_icmp_ne (tgt := 64) dX6_isIdle_51 (by decide) (fun c13 => ?_) (fun c13 => ?_)
        · replace h := h.1 c13
          refine r_iconst dX6_isIdle_64 (by decide) (by decide) ?_
          refine Fr.fewer [0, 1, 2, 3, 5] rfl ?_
          exact h
        · replace h := h.2 c13
          refine r_iload 5 dX6_isIdle_54 rfl ?_
          refine r_iload_n 1 dX6_isIdle_56 rfl rfl ?_
          refine r_icmp_ge (tgt := 64) dX6_isIdle_57 (by decide) (fun c14 => ?_) (fun c14 => ?_)
          · replace h := h.1 c14
            refine r_iconst dX6_isIdle_64 (by decide) (by decide) ?_
            refine Fr.fewer [0, 1, 2, 3, 5] rfl ?_
            exact h
          · replace h := h.2 c14
            refine r_iconst dX6_isIdle_60 (by decide) (by decide) ?_
            refine r_goto (tgt := 65) dX6_isIdle_61 (by decide) ?_
            refine Fr.fewer [0, 1, 2, 3, 5] rfl ?_
            exact h
set_option maxHeartbeats 4000000 in
set_option maxRecDepth 20000 in
theorem bX6_isIdle_65 {d : Nat} {K : Shp} {H : Mem} {q : Int → Mem → Prop} {v0 v1 v2 v3 v5 s0 : Int} (h : (((s0 : Int) = 0 → FX6_isIdle_88 d K H q (v0) (v1) (v2) (v3) (v5) (0)) ∧ (¬ (s0 : Int) = 0 → ((0 : Int) ≤ v0) ∧ (K[(v0 : Int).toNat]? = some (6, 3)) ∧ ((0 : Int) ≤ (H (v0 : Int).toNat 1)) ∧ ∃ n5 : Nat, (K[((H (v0 : Int).toNat 1) : Int).toNat]? = some (20, n5)) ∧ ((0 : Int) ≤ v5) ∧ ((v5 : Int) < n5) ∧ ((((H ((H (v0 : Int).toNat 1) : Int).toNat (v5 : Int).toNat) : Int) < v3 → FX6_isIdle_88 d K H q (v0) (v1) (v2) (v3) (v5) (0)) ∧ (¬ ((H ((H (v0 : Int).toNat 1) : Int).toNat (v5 : Int).toNat) : Int) < v3 → FX6_isIdle_88 d K H q (v0) (v1) (v2) (v3) (v5) (1)))))) : FX6_isIdle_65 d K H q (v0) (v1) (v2) (v3) (v5) (s0) := by
  unfold FX6_isIdle_65
  refine r_istore dX6_isIdle_65 (by decide) rfl ?_
  refine r_iload 0 dX6_isIdle_67 rfl ?_
  refine r_if_eq (tgt := 87) dX6_isIdle_69 (by decide) (fun c1 => ?_) (fun c1 => ?_)
  · replace h := h.1 c1
    refine r_iconst dX6_isIdle_87 (by decide) (by decide) ?_
    refine Fr.fewer [1, 2, 3, 4, 5] rfl ?_
    exact h
  · replace h := h.2 c1
    refine r_aload_n 1 dX6_isIdle_72 rfl rfl ?_
    obtain ⟨h2, h⟩ := h
    obtain ⟨h3, h⟩ := h
    refine r_getf cls6 1 dX6_isIdle_73 (by decide) fl_RX6_15 rfl h2 h3 ?_
    refine r_iload 5 dX6_isIdle_76 rfl ?_
    obtain ⟨h4, h⟩ := h
    obtain ⟨n5, h⟩ := h
    obtain ⟨h6, h⟩ := h
    obtain ⟨h7, h⟩ := h
    obtain ⟨h8, h⟩ := h
    refine r_iald n5 dX6_isIdle_78 h4 h6 h7 h8 ?_
    refine r_iload_n 4 dX6_isIdle_79 rfl rfl ?_
    refine r_icmp_lt (tgt := 87) dX6_isIdle_80 (by decide) (fun c9 => ?_) (fun c9 => ?_)
    · replace h := h.1 c9
      refine r_iconst dX6_isIdle_87 (by decide) (by decide) ?_
      refine Fr.fewer [1, 2, 3, 4, 5] rfl ?_
      exact h
    · replace h := h.2 c9
      refine r_iconst dX6_isIdle_83 (by decide) (by decide) ?_
      refine r_goto (tgt := 88) dX6_isIdle_84 (by decide) ?_
      refine Fr.fewer [1, 2, 3, 4, 5] rfl ?_
      exact h
set_option maxHeartbeats 4000000 in
set_option maxRecDepth 20000 in
theorem bX6_isIdle_88 {d : Nat} {K : Shp} {H : Mem} {q : Int → Mem → Prop} {v0 v1 v2 v3 v5 s0 : Int} (h : (inI (v5 + 1)) ∧ FX6_isIdle_18 d K H q (v0) (v1) (v2) (v3) (s0) ((v5 + 1))) : FX6_isIdle_88 d K H q (v0) (v1) (v2) (v3) (v5) (s0) := by
  unfold FX6_isIdle_88
  refine r_istore dX6_isIdle_88 (by decide) rfl ?_
  obtain ⟨h1, h⟩ := h
  refine r_iinc 5 dX6_isIdle_90 (by decide) rfl h1 rfl ?_
  refine r_goto (tgt := 18) dX6_isIdle_93 (by decide) ?_
  refine Fr.fewer [2, 3, 4, 5, 1, 0] rfl ?_
  exact h
set_option maxHeartbeats 4000000 in
set_option maxRecDepth 20000 in
theorem eX6_isIdle {d : Nat} {K : Shp} {H : Mem} {q : Int → Mem → Prop} {v0 v1 : Int} (h : inI v1 → Rng K H → FX6_isIdle_0 d K H q v0 v1) : Ci mX6_isIdle (d + 1) [(2, v0), (0, v1)] K H q := Call.of rfl (Nat.le_of_ble_eq_true rfl) (fun o r => h (o (0, v1) (by simp)) r)
