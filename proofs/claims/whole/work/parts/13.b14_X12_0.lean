/-! printed by gen/emit.py: what a walk from each cut point asks -/
def FX12_status_0 (d : Nat) (K : Shp) (H : Mem) (q : Int → Mem → Prop) (v0 : Int) : Prop := Fr mX12_status d 0 0 none 0 [(0, (2, v0))] [] K H (qi K q)
set_option maxHeartbeats 4000000 in
set_option maxRecDepth 20000 in
theorem bX12_status_0 {d : Nat} {K : Shp} {H : Mem} {q : Int → Mem → Prop} {v0 : Int} (h : ((0 : Int) ≤ v0) ∧ (K[(v0 : Int).toNat]? = some (12, 51)) ∧ q (H (v0 : Int).toNat 0) H) : FX12_status_0 d K H q (v0) := by
  unfold FX12_status_0
  refine r_aload_n 0 dX12_status_0 rfl rfl ?_
  obtain ⟨h1, h⟩ := h
  obtain ⟨h2, h⟩ := h
  refine r_getf cls12 0 dX12_status_1 (by decide) fl_RX12_89 rfl h1 h2 ?_
  exact r_iret dX12_status_4 rfl ⟨rfl, _, rfl, h⟩
set_option maxHeartbeats 4000000 in
set_option maxRecDepth 20000 in
theorem eX12_status {d : Nat} {K : Shp} {H : Mem} {q : Int → Mem → Prop} {v0 : Int} (h : Rng K H → FX12_status_0 d K H q v0) : Ci mX12_status d [(2, v0)] K H q := Call.of rfl (Nat.le_of_ble_eq_true rfl) (fun o r => h  r)
def FX12_is_0 (d : Nat) (K : Shp) (H : Mem) (q : Int → Mem → Prop) (v0 : Int) (v1 : Int) : Prop := Fr mX12_is d 0 0 none 0 [(0, (2, v0)), (1, (0, v1))] [] K H (qi K q)
set_option maxHeartbeats 4000000 in
set_option maxRecDepth 20000 in
theorem bX12_is_0 {d : Nat} {K : Shp} {H : Mem} {q : Int → Mem → Prop} {v0 v1 : Int} (h : ((0 : Int) ≤ v0) ∧ (K[(v0 : Int).toNat]? = some (12, 51)) ∧ ∀ H3 : Mem, H3 = upA H (v0 : Int).toNat (up1 (H (v0 : Int).toNat) 0 v1) → ((¬ (v1 : Int) = 0 → q 0 H3) ∧ ((v1 : Int) = 0 → q 1 H3))) : FX12_is_0 d K H q (v0) (v1) := by
  unfold FX12_is_0
  refine r_aload_n 0 dX12_is_0 rfl rfl ?_
  refine r_iload_n 1 dX12_is_1 rfl rfl ?_
  obtain ⟨h1, h⟩ := h
  obtain ⟨h2, h⟩ := h
  refine r_putf cls12 0 dX12_is_2 (by decide) rfl fl_RX12_89 rfl h1 h2 (fun o => o) ?_
  replace h := h _ rfl
  generalize upA H (v0 : Int).toNat (up1 (H (v0 : Int).toNat) 0 v1) = H3 at h ⊢
  refine r_iload_n 1 dX12_is_5 rfl rfl ?_
  refine r_if_ne (tgt := 13) dX12_is_6 (by decide) (fun c4 => ?_) (fun c4 => ?_)
  · replace h := h.1 c4
    refine r_iconst dX12_is_13 (by decide) (by decide) ?_
    exact r_zret dX12_is_14 rfl (Or.inl rfl) ⟨rfl, _, rfl, h⟩
  · replace h := h.2 c4
    refine r_iconst dX12_is_9 (by decide) (by decide) ?_
    refine r_goto (tgt := 14) dX12_is_10 (by decide) ?_
    exact r_zret dX12_is_14 rfl (Or.inr rfl) ⟨rfl, _, rfl, h⟩
set_option maxHeartbeats 4000000 in
set_option maxRecDepth 20000 in
theorem eX12_is {d : Nat} {K : Shp} {H : Mem} {q : Int → Mem → Prop} {v0 v1 : Int} (h : inI v1 → Rng K H → FX12_is_0 d K H q v0 v1) : Ci mX12_is d [(2, v0), (0, v1)] K H q := Call.of rfl (Nat.le_of_ble_eq_true rfl) (fun o r => h (o (0, v1) (by simp)) r)
def FX12_refuse_0 (d : Nat) (K : Shp) (H : Mem) (q : Int → Mem → Prop) (v0 : Int) (v1 : Int) : Prop := Fr mX12_refuse d 0 0 none 0 [(0, (2, v0)), (1, (0, v1))] [] K H (qi K q)
set_option maxHeartbeats 4000000 in
set_option maxRecDepth 20000 in
theorem bX12_refuse_0 {d : Nat} {K : Shp} {H : Mem} {q : Int → Mem → Prop} {v0 v1 : Int} (h : ((0 : Int) ≤ v0) ∧ (K[(v0 : Int).toNat]? = some (12, 51)) ∧ ∀ H3 : Mem, H3 = upA H (v0 : Int).toNat (up1 (H (v0 : Int).toNat) 0 v1) → q (-1) H3) : FX12_refuse_0 d K H q (v0) (v1) := by
  unfold FX12_refuse_0
  refine r_aload_n 0 dX12_refuse_0 rfl rfl ?_
  refine r_iload_n 1 dX12_refuse_1 rfl rfl ?_
  obtain ⟨h1, h⟩ := h
  obtain ⟨h2, h⟩ := h
  refine r_putf cls12 0 dX12_refuse_2 (by decide) rfl fl_RX12_89 rfl h1 h2 (fun o => o) ?_
  replace h := h _ rfl
  generalize upA H (v0 : Int).toNat (up1 (H (v0 : Int).toNat) 0 v1) = H3 at h ⊢
  refine r_iconst dX12_refuse_5 (by decide) (by decide) ?_
  exact r_iret dX12_refuse_6 rfl ⟨rfl, _, rfl, h⟩
set_option maxHeartbeats 4000000 in
set_option maxRecDepth 20000 in
theorem eX12_refuse {d : Nat} {K : Shp} {H : Mem} {q : Int → Mem → Prop} {v0 v1 : Int} (h : inI v1 → Rng K H → FX12_refuse_0 d K H q v0 v1) : Ci mX12_refuse d [(2, v0), (0, v1)] K H q := Call.of rfl (Nat.le_of_ble_eq_true rfl) (fun o r => h (o (0, v1) (by simp)) r)
def FX12_places_0 (d : Nat) (K : Shp) (H : Mem) (q : Int → Mem → Prop) (v0 : Int) (v1 : Int) : Prop := Fr mX12_places d 0 0 none 0 [(0, (2, v0)), (1, (0, v1))] [] K H (qi K q)
set_option maxHeartbeats 4000000 in
set_option maxRecDepth 20000 in
theorem bX12_places_0 {d : Nat} {K : Shp} {H : Mem} {q : Int → Mem → Prop} {v0 v1 : Int} (h : ((0 : Int) ≤ v0) ∧ (K[(v0 : Int).toNat]? = some (12, 51)) ∧ ((0 : Int) ≤ (H (v0 : Int).toNat 1)) ∧ ∃ n4 : Nat, (K[((H (v0 : Int).toNat 1) : Int).toNat]? = some (20, n4)) ∧ ((0 : Int) ≤ v1) ∧ ((v1 : Int) < n4) ∧ ((¬ ((H ((H (v0 : Int).toNat 1) : Int).toNat (v1 : Int).toNat) : Int) < 0 → q (H ((H (v0 : Int).toNat 1) : Int).toNat (v1 : Int).toNat) H) ∧ (((H ((H (v0 : Int).toNat 1) : Int).toNat (v1 : Int).toNat) : Int) < 0 → (inI (-(H ((H (v0 : Int).toNat 1) : Int).toNat (v1 : Int).toNat))) ∧ q (-(H ((H (v0 : Int).toNat 1) : Int).toNat (v1 : Int).toNat)) H))) : FX12_places_0 d K H q (v0) (v1) := by
  unfold FX12_places_0
  refine r_aload_n 0 dX12_places_0 rfl rfl ?_
  obtain ⟨h1, h⟩ := h
  obtain ⟨h2, h⟩ := h
  refine r_getf cls12 1 dX12_places_1 (by decide) fl_RX12_7 rfl h1 h2 ?_
  refine r_iload_n 1 dX12_places_4 rfl rfl ?_
  obtain ⟨h3, h⟩ := h
  obtain ⟨n4, h⟩ := h
  obtain ⟨h5, h⟩ := h
  obtain ⟨h6, h⟩ := h
  obtain ⟨h7, h⟩ := h
  refine r_iald n4 dX12_places_5 h3 h5 h6 h7 ?_
  refine r_if_ge (tgt := 19) dX12_places_6 (by decide) (fun c8 => ?_) (fun c8 => ?_)
  · replace h := h.1 c8
    refine r_aload_n 0 dX12_places_19 rfl rfl ?_
    refine r_getf cls12 1 dX12_places_20 (by decide) fl_RX12_7 rfl h1 h2 ?_
    refine r_iload_n 1 dX12_places_23 rfl rfl ?_
    refine r_iald n4 dX12_places_24 h3 h5 h6 h7 ?_
    exact r_iret dX12_places_25 rfl ⟨rfl, _, rfl, h⟩
  · replace h := h.2 c8
    refine r_aload_n 0 dX12_places_9 rfl rfl ?_
    refine r_getf cls12 1 dX12_places_10 (by decide) fl_RX12_7 rfl h1 h2 ?_
    refine r_iload_n 1 dX12_places_13 rfl rfl ?_
    refine r_iald n4 dX12_places_14 h3 h5 h6 h7 ?_
    obtain ⟨h9, h⟩ := h
    refine r_ineg dX12_places_15 h9 ?_
    refine r_goto (tgt := 25) dX12_places_16 (by decide) ?_
    exact r_iret dX12_places_25 rfl ⟨rfl, _, rfl, h⟩
set_option maxHeartbeats 4000000 in
set_option maxRecDepth 20000 in
theorem eX12_places {d : Nat} {K : Shp} {H : Mem} {q : Int → Mem → Prop} {v0 v1 : Int} (h : inI v1 → Rng K H → FX12_places_0 d K H q v0 v1) : Ci mX12_places d [(2, v0), (0, v1)] K H q := Call.of rfl (Nat.le_of_ble_eq_true rfl) (fun o r => h (o (0, v1) (by simp)) r)
def FX12_sign_0 (d : Nat) (K : Shp) (H : Mem) (q : Int → Mem → Prop) (v0 : Int) (v1 : Int) : Prop := Fr mX12_sign d 0 0 none 0 [(0, (2, v0)), (1, (0, v1))] [] K H (qi K q)
set_option maxHeartbeats 4000000 in
set_option maxRecDepth 20000 in
theorem bX12_sign_0 {d : Nat} {K : Shp} {H : Mem} {q : Int → Mem → Prop} {v0 v1 : Int} (h : ((0 : Int) ≤ v0) ∧ (K[(v0 : Int).toNat]? = some (12, 51)) ∧ ((0 : Int) ≤ (H (v0 : Int).toNat 1)) ∧ ∃ n4 : Nat, (K[((H (v0 : Int).toNat 1) : Int).toNat]? = some (20, n4)) ∧ ((0 : Int) ≤ v1) ∧ ((v1 : Int) < n4) ∧ ((((H ((H (v0 : Int).toNat 1) : Int).toNat (v1 : Int).toNat) : Int) ≤ 0 → ((¬ ((H ((H (v0 : Int).toNat 1) : Int).toNat (v1 : Int).toNat) : Int) < 0 → q 0 H) ∧ (((H ((H (v0 : Int).toNat 1) : Int).toNat (v1 : Int).toNat) : Int) < 0 → q (-1) H))) ∧ (¬ ((H ((H (v0 : Int).toNat 1) : Int).toNat (v1 : Int).toNat) : Int) ≤ 0 → q 1 H))) : FX12_sign_0 d K H q (v0) (v1) := by
  unfold FX12_sign_0
  refine r_aload_n 0 dX12_sign_0 rfl rfl ?_
  obtain ⟨h1, h⟩ := h
  obtain ⟨h2, h⟩ := h
  refine r_getf cls12 1 dX12_sign_1 (by decide) fl_RX12_7 rfl h1 h2 ?_
  refine r_iload_n 1 dX12_sign_4 rfl rfl ?_
  obtain ⟨h3, h⟩ := h
  obtain ⟨n4, h⟩ := h
  obtain ⟨h5, h⟩ := h
  obtain ⟨h6, h⟩ := h
  obtain ⟨h7, h⟩ := h
  refine r_iald n4 dX12_sign_5 h3 h5 h6 h7 ?_
  refine r_if_le (tgt := 13) dX12_sign_6 (by decide) (fun c8 => ?_) (fun c8 => ?_)
  · replace h := h.1 c8
    refine r_aload_n 0 dX12_sign_13 rfl rfl ?_
    refine r_getf cls12 1 dX12_sign_14 (by decide) fl_RX12_7 rfl h1 h2 ?_
    refine r_iload_n 1 dX12_sign_17 rfl rfl ?_
    refine r_iald n4 dX12_sign_18 h3 h5 h6 h7 ?_
    refine r_if_ge (tgt := 26) dX12_sign_19 (by decide) (fun c9 => ?_) (fun c9 => ?_)
    · replace h := h.1 c9
      refine r_iconst dX12_sign_26 (by decide) (by decide) ?_
      exact r_iret dX12_sign_27 rfl ⟨rfl, _, rfl, h⟩
    · replace h := h.2 c9
      refine r_iconst dX12_sign_22 (by decide) (by decide) ?_
      refine r_goto (tgt := 27) dX12_sign_23 (by decide) ?_
      exact r_iret dX12_sign_27 rfl ⟨rfl, _, rfl, h⟩
  · replace h := h.2 c8
    refine r_iconst dX12_sign_9 (by decide) (by decide) ?_
    refine r_goto (tgt := 27) dX12_sign_10 (by decide) ?_
    exact r_iret dX12_sign_27 rfl ⟨rfl, _, rfl, h⟩
set_option maxHeartbeats 4000000 in
set_option maxRecDepth 20000 in
theorem eX12_sign {d : Nat} {K : Shp} {H : Mem} {q : Int → Mem → Prop} {v0 v1 : Int} (h : inI v1 → Rng K H → FX12_sign_0 d K H q v0 v1) : Ci mX12_sign d [(2, v0), (0, v1)] K H q := Call.of rfl (Nat.le_of_ble_eq_true rfl) (fun o r => h (o (0, v1) (by simp)) r)
def FX12_room_0 (d : Nat) (K : Shp) (H : Mem) (q : Int → Mem → Prop) (v0 : Int) (v1 : Int) : Prop := Fr mX12_room d 0 0 none 0 [(0, (2, v0)), (1, (0, v1))] [] K H (qi K q)
set_option maxHeartbeats 4000000 in
set_option maxRecDepth 20000 in
theorem bX12_room_0 {d : Nat} {K : Shp} {H : Mem} {q : Int → Mem → Prop} {v0 v1 : Int} (h : ((0 : Int) ≤ v0) ∧ (K[(v0 : Int).toNat]? = some (12, 51)) ∧ (inI (v1 + 1)) ∧ (inI ((H (v0 : Int).toNat 2) + (v1 + 1))) ∧ ∀ H5 : Mem, H5 = upA H (v0 : Int).toNat (up1 (H (v0 : Int).toNat) 2 ((H (v0 : Int).toNat 2) + (v1 + 1))) → q (H (v0 : Int).toNat 2) H5) : FX12_room_0 d K H q (v0) (v1) := by
  unfold FX12_room_0
  refine r_aload_n 0 dX12_room_0 rfl rfl ?_
  obtain ⟨h1, h⟩ := h
  obtain ⟨h2, h⟩ := h
  refine r_getf cls12 2 dX12_room_1 (by decide) fl_RX12_93 rfl h1 h2 ?_
  refine r_istore_n dX12_room_4 rfl (by decide) rfl ?_
  refine r_aload_n 1 dX12_room_5 rfl rfl ?_
  refine r_dup dX12_room_6 (show (2 : Nat) ≠ 1 by decide) ?_
  refine r_getf cls12 2 dX12_room_7 (by decide) fl_RX12_93 rfl h1 h2 ?_
  refine r_iload_n 2 dX12_room_10 rfl rfl ?_
  refine r_iconst dX12_room_11 (by decide) (by decide) ?_
  obtain ⟨h3, h⟩ := h
  refine r_iadd dX12_room_12 h3 ?_
  obtain ⟨h4, h⟩ := h
  refine r_iadd dX12_room_13 h4 ?_
  refine r_putf cls12 2 dX12_room_14 (by decide) rfl fl_RX12_93 rfl h1 h2 (fun o => o) ?_
  replace h := h _ rfl
  generalize upA H (v0 : Int).toNat (up1 (H (v0 : Int).toNat) 2 ((H (v0 : Int).toNat 2) + (v1 + 1))) = H5 at h ⊢
  refine r_iload_n 0 dX12_room_17 rfl rfl ?_
  exact r_iret dX12_room_18 rfl ⟨rfl, _, rfl, h⟩
set_option maxHeartbeats 4000000 in
set_option maxRecDepth 20000 in
theorem eX12_room {d : Nat} {K : Shp} {H : Mem} {q : Int → Mem → Prop} {v0 v1 : Int} (h : inI v1 → Rng K H → FX12_room_0 d K H q v0 v1) : Ci mX12_room d [(2, v0), (0, v1)] K H q := Call.of rfl (Nat.le_of_ble_eq_true rfl) (fun o r => h (o (0, v1) (by simp)) r)
def FX12_done_0 (d : Nat) (K : Shp) (H : Mem) (q : Int → Mem → Prop) (v0 : Int) (v1 : Int) (v2 : Int) (v3 : Int) : Prop := Fr mX12_done d 0 0 none 0 [(0, (2, v0)), (1, (0, v1)), (2, (0, v2)), (3, (0, v3))] [] K H (qi K q)
def FX12_done_3 (d : Nat) (K : Shp) (H : Mem) (q : Int → Mem → Prop) (v0 : Int) (v1 : Int) (v3 : Int) (v4 : Int) : Prop := Fr mX12_done d 0 0 none 3 [(0, (2, v0)), (1, (0, v1)), (3, (0, v3)), (4, (0, v4))] [] K H (qi K q)
set_option maxHeartbeats 4000000 in
set_option maxRecDepth 20000 in
theorem bX12_done_0 {d : Nat} {K : Shp} {H : Mem} {q : Int → Mem → Prop} {v0 v1 v2 v3 : Int} (h : FX12_done_3 d K H q (v0) (v1) (v3) (v2)) : FX12_done_0 d K H q (v0) (v1) (v2) (v3) := by
  unfold FX12_done_0
  refine r_iload_n 2 dX12_done_0 rfl rfl ?_
  refine r_istore dX12_done_1 (by decide) rfl ?_
  refine Fr.fewer [1, 2, 4, 0] rfl ?_
  exact h
set_option maxHeartbeats 4000000 in
set_option maxRecDepth 20000 in
theorem bX12_done_3 {d : Nat} {K : Shp} {H : Mem} {q : Int → Mem → Prop} {v0 v1 v3 v4 : Int} (h : (((v4 : Int) ≤ 0 → ((0 : Int) ≤ v0) ∧ (K[(v0 : Int).toNat]? = some (12, 51)) ∧ (((v3 : Int) = 0 → ((0 : Int) ≤ (H (v0 : Int).toNat 1)) ∧ ∃ n6 : Nat, (K[((H (v0 : Int).toNat 1) : Int).toNat]? = some (20, n6)) ∧ ((0 : Int) ≤ v1) ∧ ((v1 : Int) < n6) ∧ ∀ H10 : Mem, H10 = upA H ((H (v0 : Int).toNat 1) : Int).toNat (up1 (H ((H (v0 : Int).toNat 1) : Int).toNat) (v1 : Int).toNat v4) → (inI (v1 + v4)) ∧ (inI ((v1 + v4) + 1)) ∧ ∀ H13 : Mem, H13 = upA H10 (v0 : Int).toNat (up1 (H10 (v0 : Int).toNat) 2 ((v1 + v4) + 1)) → q v1 H13) ∧ (¬ (v3 : Int) = 0 → (inI (-v4)) ∧ ((0 : Int) ≤ (H (v0 : Int).toNat 1)) ∧ ∃ n16 : Nat, (K[((H (v0 : Int).toNat 1) : Int).toNat]? = some (20, n16)) ∧ ((0 : Int) ≤ v1) ∧ ((v1 : Int) < n16) ∧ ∀ H20 : Mem, H20 = upA H ((H (v0 : Int).toNat 1) : Int).toNat (up1 (H ((H (v0 : Int).toNat 1) : Int).toNat) (v1 : Int).toNat (-v4)) → (inI (v1 + v4)) ∧ (inI ((v1 + v4) + 1)) ∧ ∀ H23 : Mem, H23 = upA H20 (v0 : Int).toNat (up1 (H20 (v0 : Int).toNat) 2 ((v1 + v4) + 1)) → q v1 H23))) ∧ (¬ (v4 : Int) ≤ 0 → ((0 : Int) ≤ v0) ∧ (K[(v0 : Int).toNat]? = some (12, 51)) ∧ (inI (v1 + v4)) ∧ ((0 : Int) ≤ (H (v0 : Int).toNat 1)) ∧ ∃ n28 : Nat, (K[((H (v0 : Int).toNat 1) : Int).toNat]? = some (20, n28)) ∧ ((0 : Int) ≤ (v1 + v4)) ∧ (((v1 + v4) : Int) < n28) ∧ ((¬ ((H ((H (v0 : Int).toNat 1) : Int).toNat ((v1 + v4) : Int).toNat) : Int) = 0 → (((v3 : Int) = 0 → ((0 : Int) ≤ v1) ∧ ((v1 : Int) < n28) ∧ ∀ H36 : Mem, H36 = upA H ((H (v0 : Int).toNat 1) : Int).toNat (up1 (H ((H (v0 : Int).toNat 1) : Int).toNat) (v1 : Int).toNat v4) → (inI ((v1 + v4) + 1)) ∧ ∀ H38 : Mem, H38 = upA H36 (v0 : Int).toNat (up1 (H36 (v0 : Int).toNat) 2 ((v1 + v4) + 1)) → q v1 H38) ∧ (¬ (v3 : Int) = 0 → (inI (-v4)) ∧ ((0 : Int) ≤ v1) ∧ ((v1 : Int) < n28) ∧ ∀ H42 : Mem, H42 = upA H ((H (v0 : Int).toNat 1) : Int).toNat (up1 (H ((H (v0 : Int).toNat 1) : Int).toNat) (v1 : Int).toNat (-v4)) → (inI ((v1 + v4) + 1)) ∧ ∀ H44 : Mem, H44 = upA H42 (v0 : Int).toNat (up1 (H42 (v0 : Int).toNat) 2 ((v1 + v4) + 1)) → q v1 H44))) ∧ (((H ((H (v0 : Int).toNat 1) : Int).toNat ((v1 + v4) : Int).toNat) : Int) = 0 → (inI (v4 + (-1))) ∧ FX12_done_3 d K H q (v0) (v1) (v3) ((v4 + (-1)))))))) : FX12_done_3 d K H q (v0) (v1) (v3) (v4) := by
  unfold FX12_done_3
  refine r_iload 3 dX12_done_3 rfl ?_
  refine r_if_le (tgt := 26) dX12_done_5 (by decide) (fun c1 => ?_) (fun c1 => ?_)
  · replace h := h.1 c1
    refine r_aload_n 0 dX12_done_26 rfl rfl ?_
    obtain ⟨h2, h⟩ := h
    obtain ⟨h3, h⟩ := h
    refine r_getf cls12 1 dX12_done_27 (by decide) fl_RX12_7 rfl h2 h3 ?_
    refine r_iload_n 1 dX12_done_30 rfl rfl ?_
    refine r_iload_n 2 dX12_done_31 rfl rfl ?_
    refine r_if_eq (tgt := 41) dX12_done_32 (by decide) (fun c4 => ?_) (fun c4 => ?_)
    · replace h := h.1 c4
      refine r_iload 3 dX12_done_41 rfl ?_
      obtain ⟨h5, h⟩ := h
      obtain ⟨n6, h⟩ := h
      obtain ⟨h7, h⟩ := h
      obtain ⟨h8, h⟩ := h
      obtain ⟨h9, h⟩ := h
      refine r_iast n6 dX12_done_43 h5 h7 h8 h9 ?_
      replace h := h _ rfl
      generalize upA H ((H (v0 : Int).toNat 1) : Int).toNat (up1 (H ((H (v0 : Int).toNat 1) : Int).toNat) (v1 : Int).toNat v4) = H10 at h ⊢
      refine r_aload_n 0 dX12_done_44 rfl rfl ?_
      refine r_iload_n 1 dX12_done_45 rfl rfl ?_
      refine r_iload 3 dX12_done_46 rfl ?_
      obtain ⟨h11, h⟩ := h
      refine r_iadd dX12_done_48 h11 ?_
      refine r_iconst dX12_done_49 (by decide) (by decide) ?_
      obtain ⟨h12, h⟩ := h
      refine r_iadd dX12_done_50 h12 ?_
      refine r_putf cls12 2 dX12_done_51 (by decide) rfl fl_RX12_93 rfl h2 h3 (fun o => o) ?_
      replace h := h _ rfl
      generalize upA H10 (v0 : Int).toNat (up1 (H10 (v0 : Int).toNat) 2 ((v1 + v4) + 1)) = H13 at h ⊢
      refine r_iload_n 1 dX12_done_54 rfl rfl ?_
      exact r_iret dX12_done_55 rfl ⟨rfl, _, rfl, h⟩
    · replace h := h.2 c4
      refine r_iload 3 dX12_done_35 rfl ?_
      obtain ⟨h14, h⟩ := h
      refine r_ineg dX12_done_37 h14 ?_
      refine r_goto (tgt := 43) dX12_done_38 (by decide) ?_
      obtain ⟨h15, h⟩ := h
      obtain ⟨n16, h⟩ := h
      obtain ⟨h17, h⟩ := h
      obtain ⟨h18, h⟩ := h
      obtain ⟨h19, h⟩ := h
      refine r_iast n16 dX12_done_43 h15 h17 h18 h19 ?_
      replace h := h _ rfl
      generalize upA H ((H (v0 : Int).toNat 1) : Int).toNat (up1 (H ((H (v0 : Int).toNat 1) : Int).toNat) (v1 : Int).toNat (-v4)) = H20 at h ⊢
      refine r_aload_n 0 dX12_done_44 rfl rfl ?_
      refine r_iload_n 1 dX12_done_45 rfl rfl ?_
      refine r_iload 3 dX12_done_46 rfl ?_
      obtain ⟨h21, h⟩ := h
      refine r_iadd dX12_done_48 h21 ?_
      refine r_iconst dX12_done_49 (by decide) (by decide) ?_
      obtain ⟨h22, h⟩ := h
      refine r_iadd dX12_done_50 h22 ?_
      refine r_putf cls12 2 dX12_done_51 (by decide) rfl fl_RX12_93 rfl h2 h3 (fun o => o) ?_
      replace h := h _ rfl
      generalize upA H20 (v0 : Int).toNat (up1 (H20 (v0 : Int).toNat) 2 ((v1 + v4) + 1)) = H23 at h ⊢
      refine r_iload_n 1 dX12_done_54 rfl rfl ?_
      exact r_iret dX12_done_55 rfl ⟨rfl, _, rfl, h⟩
  · replace h := h.2 c1
    refine r_aload_n 0 dX12_done_8 rfl rfl ?_
    obtain ⟨h24, h⟩ := h
    obtain ⟨h25, h⟩ := h
    refine r_getf cls12 1 dX12_done_9 (by decide) fl_RX12_7 rfl h24 h25 ?_
    refine r_iload_n 1 dX12_done_12 rfl rfl ?_
    refine r_iload 3 dX12_done_13 rfl ?_
    obtain ⟨h26, h⟩ := h
    refine r_iadd dX12_done_15 h26 ?_
    obtain ⟨h27, h⟩ := h
    obtain ⟨n28, h⟩ := h
    obtain ⟨h29, h⟩ := h
    obtain ⟨h30, h⟩ := h
    obtain ⟨h31, h⟩ := h
    refine r_iald n28 dX12_done_16 h27 h29 h30 h31 ?_
    refine r_if_ne (tgt := 26) dX12_done_17 (by decide) (fun c32 => ?_) (fun c32 => ?_)
    · replace h := h.1 c32
      refine r_aload_n 0 dX12_done_26 rfl rfl ?_
      refine r_getf cls12 1 dX12_done_27 (by decide) fl_RX12_7 rfl h24 h25 ?_
      refine r_iload_n 1 dX12_done_30 rfl rfl ?_
      refine r_iload_n 2 dX12_done_31 rfl rfl ?_
      refine r_if_eq (tgt := 41) dX12_done_32 (by decide) (fun c33 => ?_) (fun c33 => ?_)
      · replace h := h.1 c33
        refine r_iload 3 dX12_done_41 rfl ?_
        obtain ⟨h34, h⟩ := h
        obtain ⟨h35, h⟩ := h
        refine r_iast n28 dX12_done_43 h27 h29 h34 h35 ?_
        replace h := h _ rfl
        generalize upA H ((H (v0 : Int).toNat 1) : Int).toNat (up1 (H ((H (v0 : Int).toNat 1) : Int).toNat) (v1 : Int).toNat v4) = H36 at h ⊢
        refine r_aload_n 0 dX12_done_44 rfl rfl ?_
        refine r_iload_n 1 dX12_done_45 rfl rfl ?_
        refine r_iload 3 dX12_done_46 rfl ?_
        refine r_iadd dX12_done_48 h26 ?_
        refine r_iconst dX12_done_49 (by decide) (by decide) ?_
        obtain ⟨h37, h⟩ := h
        refine r_iadd dX12_done_50 h37 ?_
        refine r_putf cls12 2 dX12_done_51 (by decide) rfl fl_RX12_93 rfl h24 h25 (fun o => o) ?_
        replace h := h _ rfl
        generalize upA H36 (v0 : Int).toNat (up1 (H36 (v0 : Int).toNat) 2 ((v1 + v4) + 1)) = H38 at h ⊢
        refine r_iload_n 1 dX12_done_54 rfl rfl ?_
        exact r_iret dX12_done_55 rfl ⟨rfl, _, rfl, h⟩
      · replace h := h.2 c33
        refine r_iload 3 dX12_done_35 rfl ?_
        obtain ⟨h39, h⟩ := h
        refine r_ineg dX12_done_37 h39 ?_
        refine r_goto (tgt := 43) dX12_done_38 (by decide) ?_
        obtain ⟨h40, h⟩ := h
        obtain ⟨h41, h⟩ := h
        refine r_iast n28 dX12_done_43 h27 h29 h40 h41 ?_
        replace h := h _ rfl
        generalize upA H ((H (v0 : Int).toNat 1) : Int).toNat (up1 (H ((H (v0 : Int).toNat 1) : Int).toNat) (v1 : Int).toNat (-v4)) = H42 at h ⊢
        refine r_aload_n 0 dX12_done_44 rfl rfl ?_
        refine r_iload_n 1 dX12_done_45 rfl rfl ?_
        refine r_iload 3 dX12_done_46 rfl ?_
        refine r_iadd dX12_done_48 h26 ?_
        refine r_iconst dX12_done_49 (by decide) (by decide) ?_
        obtain ⟨h43, h⟩ := h
        refine r_iadd dX12_done_50 h43 ?_
        refine r_putf cls12 2 dX12_done_51 (by decide) rfl fl_RX12_93 rfl h24 h25 (fun o => o) ?_
        replace h := h _ rfl
        generalize upA H42 (v0 : Int).toNat (up1 (H42 (v0 : Int).toNat) 2 ((v1 + v4) + 1)) = H44 at h ⊢
        refine r_iload_n 1 dX12_done_54 rfl rfl ?_
        exact r_iret dX12_done_55 rfl ⟨rfl, _, rfl, h⟩
    · replace h := h.2 c32
      obtain ⟨h45, h⟩ := h
      refine r_iinc 3 dX12_done_20 (by decide) rfl h45 rfl ?_
      refine r_goto (tgt := 3) dX12_done_23 (by decide) ?_
      refine Fr.fewer [1, 2, 3, 0] rfl ?_
      exact h
set_option maxHeartbeats 4000000 in
set_option maxRecDepth 20000 in
theorem eX12_done {d : Nat} {K : Shp} {H : Mem} {q : Int → Mem → Prop} {v0 v1 v2 v3 : Int} (h : inI v1 → inI v2 → inI v3 → Rng K H → FX12_done_0 d K H q v0 v1 v2 v3) : Ci mX12_done d [(2, v0), (0, v1), (0, v2), (0, v3)] K H q := Call.of rfl (Nat.le_of_ble_eq_true rfl) (fun o r => h (o (0, v1) (by simp)) (o (0, v2) (by simp)) (o (0, v3) (by simp)) r)
def FX12_whole_0 (d : Nat) (K : Shp) (H : Mem) (q : Int → Mem → Prop) (v0 : Int) (v1 : Int) : Prop := Fr mX12_whole (d + 1) 0 0 none 0 [(0, (2, v0)), (1, (1, v1))] [] K H (qi K q)
set_option maxHeartbeats 4000000 in
set_option maxRecDepth 20000 in
theorem bX12_whole_0 {d : Nat} {K : Shp} {H : Mem} {q : Int → Mem → Prop} {v0 v1 : Int} (h : ((0 : Int) ≤ v0) ∧ (K[(v0 : Int).toNat]? = some (12, 51)) ∧ Ci mX12_room d [(2, v0), (0, 3)] K H (fun x4 H3 => ((¬ (v1 : Int) < 0 → (inI (x4 + 1)) ∧ (inI (v1 % 1073741824)) ∧ ((0 : Int) ≤ (H3 (v0 : Int).toNat 1)) ∧ ∃ n9 : Nat, (K[((H3 (v0 : Int).toNat 1) : Int).toNat]? = some (20, n9)) ∧ ((0 : Int) ≤ (x4 + 1)) ∧ (((x4 + 1) : Int) < n9) ∧ ∀ H13 : Mem, H13 = upA H3 ((H3 (v0 : Int).toNat 1) : Int).toNat (up1 (H3 ((H3 (v0 : Int).toNat 1) : Int).toNat) ((x4 + 1) : Int).toNat (v1 % 1073741824)) → (inI (x4 + 2)) ∧ ((0 : Int) ≤ v1) ∧ (inI ((v1 / 1073741824) % 1073741824)) ∧ ((0 : Int) ≤ (H13 (v0 : Int).toNat 1)) ∧ ∃ n18 : Nat, (K[((H13 (v0 : Int).toNat 1) : Int).toNat]? = some (20, n18)) ∧ ((0 : Int) ≤ (x4 + 2)) ∧ (((x4 + 2) : Int) < n18) ∧ ∀ H22 : Mem, H22 = upA H13 ((H13 (v0 : Int).toNat 1) : Int).toNat (up1 (H13 ((H13 (v0 : Int).toNat 1) : Int).toNat) ((x4 + 2) : Int).toNat ((v1 / 1073741824) % 1073741824)) → (inI (x4 + 3)) ∧ (inI (v1 / 1152921504606846976)) ∧ ((0 : Int) ≤ (H22 (v0 : Int).toNat 1)) ∧ ∃ n26 : Nat, (K[((H22 (v0 : Int).toNat 1) : Int).toNat]? = some (20, n26)) ∧ ((0 : Int) ≤ (x4 + 3)) ∧ (((x4 + 3) : Int) < n26) ∧ ∀ H30 : Mem, H30 = upA H22 ((H22 (v0 : Int).toNat 1) : Int).toNat (up1 (H22 ((H22 (v0 : Int).toNat 1) : Int).toNat) ((x4 + 3) : Int).toNat (v1 / 1152921504606846976)) → ((¬ (v1 : Int) < 0 → Ci mX12_done d [(2, v0), (0, x4), (0, 3), (0, 0)] K H30 (fun x33 H32 => q x33 H32)) ∧ ((v1 : Int) < 0 → Ci mX12_done d [(2, v0), (0, x4), (0, 3), (0, 1)] K H30 (fun x35 H34 => q x35 H34)))) ∧ ((v1 : Int) < 0 → (inL (-v1)) ∧ (inI (x4 + 1)) ∧ (inI ((-v1) % 1073741824)) ∧ ((0 : Int) ≤ (H3 (v0 : Int).toNat 1)) ∧ ∃ n40 : Nat, (K[((H3 (v0 : Int).toNat 1) : Int).toNat]? = some (20, n40)) ∧ ((0 : Int) ≤ (x4 + 1)) ∧ (((x4 + 1) : Int) < n40) ∧ ∀ H44 : Mem, H44 = upA H3 ((H3 (v0 : Int).toNat 1) : Int).toNat (up1 (H3 ((H3 (v0 : Int).toNat 1) : Int).toNat) ((x4 + 1) : Int).toNat ((-v1) % 1073741824)) → (inI (x4 + 2)) ∧ ((0 : Int) ≤ (-v1)) ∧ (inI (((-v1) / 1073741824) % 1073741824)) ∧ ((0 : Int) ≤ (H44 (v0 : Int).toNat 1)) ∧ ∃ n49 : Nat, (K[((H44 (v0 : Int).toNat 1) : Int).toNat]? = some (20, n49)) ∧ ((0 : Int) ≤ (x4 + 2)) ∧ (((x4 + 2) : Int) < n49) ∧ ∀ H53 : Mem, H53 = upA H44 ((H44 (v0 : Int).toNat 1) : Int).toNat (up1 (H44 ((H44 (v0 : Int).toNat 1) : Int).toNat) ((x4 + 2) : Int).toNat (((-v1) / 1073741824) % 1073741824)) → (inI (x4 + 3)) ∧ (inI ((-v1) / 1152921504606846976)) ∧ ((0 : Int) ≤ (H53 (v0 : Int).toNat 1)) ∧ ∃ n57 : Nat, (K[((H53 (v0 : Int).toNat 1) : Int).toNat]? = some (20, n57)) ∧ ((0 : Int) ≤ (x4 + 3)) ∧ (((x4 + 3) : Int) < n57) ∧ ∀ H61 : Mem, H61 = upA H53 ((H53 (v0 : Int).toNat 1) : Int).toNat (up1 (H53 ((H53 (v0 : Int).toNat 1) : Int).toNat) ((x4 + 3) : Int).toNat ((-v1) / 1152921504606846976)) → ((¬ (v1 : Int) < 0 → Ci mX12_done d [(2, v0), (0, x4), (0, 3), (0, 0)] K H61 (fun x64 H63 => q x64 H63)) ∧ ((v1 : Int) < 0 → Ci mX12_done d [(2, v0), (0, x4), (0, 3), (0, 1)] K H61 (fun x66 H65 => q x66 H65))))))) : FX12_whole_0 d K H q (v0) (v1) := by
  unfold FX12_whole_0
  refine r_aload_n 0 dX12_whole_0 rfl rfl ?_
  refine r_iconst dX12_whole_1 (by decide) (by decide) ?_
  obtain ⟨h1, h⟩ := h
  obtain ⟨h2, h⟩ := h
  refine r_invV (M := mX12_whole) (As := [(0, 3)]) (st := []) (X := v0) (mc := 0) (ms := 0) (fc := 0) (fs := 0) h ok_X12_room cls12 im_X12_room se_X12_room ml_RX12_96 dX12_whole_2 rfl h1 h2 (Nat.le_of_ble_eq_true rfl) rfl ?_
  rintro r K1 H3 ⟨rfl, x4, rfl, h⟩ -
  show Fr mX12_whole (d + 1) 0 0 none 5 [(0, (2, v0)), (1, (1, v1))] [(0, x4)] _ H3 _
  refine r_istore_n dX12_whole_5 rfl (by decide) rfl ?_
  refine r_lload_n 2 dX12_whole_6 rfl rfl ?_
  refine r_lconst0 dX12_whole_7 ?_
  refine r_lcmp dX12_whole_8 ?_
  refine r_if_ge (tgt := 17) dX12_whole_9 (by decide) (fun c5 => ?_) (fun c5 => ?_)
  · replace h := h.1 (fun q => c5 (cmpL_lt.mpr q))
    refine r_lload_n 2 dX12_whole_17 rfl rfl ?_
    refine r_lstore dX12_whole_18 (by decide) rfl ?_
    refine r_aload_n 2 dX12_whole_20 rfl rfl ?_
    refine r_getf cls12 1 dX12_whole_21 (by decide) fl_RX12_7 rfl h1 h2 ?_
    refine r_iload_n 1 dX12_whole_24 rfl rfl ?_
    refine r_iconst dX12_whole_25 (by decide) (by decide) ?_
    obtain ⟨h6, h⟩ := h
    refine r_iadd dX12_whole_26 h6 ?_
    refine r_lload 0 dX12_whole_27 rfl ?_
    refine r_ldc2 (x := 1073741823) dX12_whole_29 kl_RX12_100 (by decide) (by decide) ?_
    refine r_land30 dX12_whole_32 ?_
    obtain ⟨h7, h⟩ := h
    refine r_l2i dX12_whole_33 h7 ?_
    obtain ⟨h8, h⟩ := h
    obtain ⟨n9, h⟩ := h
    obtain ⟨h10, h⟩ := h
    obtain ⟨h11, h⟩ := h
    obtain ⟨h12, h⟩ := h
    refine r_iast n9 dX12_whole_34 h8 h10 h11 h12 ?_
    replace h := h _ rfl
    generalize upA H3 ((H3 (v0 : Int).toNat 1) : Int).toNat (up1 (H3 ((H3 (v0 : Int).toNat 1) : Int).toNat) ((x4 + 1) : Int).toNat (v1 % 1073741824)) = H13 at h ⊢
    refine r_aload_n 2 dX12_whole_35 rfl rfl ?_
    refine r_getf cls12 1 dX12_whole_36 (by decide) fl_RX12_7 rfl h1 h2 ?_
    refine r_iload_n 1 dX12_whole_39 rfl rfl ?_
    refine r_iconst dX12_whole_40 (by decide) (by decide) ?_
    obtain ⟨h14, h⟩ := h
    refine r_iadd dX12_whole_41 h14 ?_
    refine r_lload 0 dX12_whole_42 rfl ?_
    refine r_bipush dX12_whole_44 (by decide) (by decide) ?_
    obtain ⟨h15, h⟩ := h
    refine r_lushr30 dX12_whole_46 h15 ?_
    refine r_ldc2 (x := 1073741823) dX12_whole_47 kl_RX12_100 (by decide) (by decide) ?_
    refine r_land30 dX12_whole_50 ?_
    obtain ⟨h16, h⟩ := h
    refine r_l2i dX12_whole_51 h16 ?_
    obtain ⟨h17, h⟩ := h
    obtain ⟨n18, h⟩ := h
    obtain ⟨h19, h⟩ := h
    obtain ⟨h20, h⟩ := h
    obtain ⟨h21, h⟩ := h
    refine r_iast n18 dX12_whole_52 h17 h19 h20 h21 ?_
    replace h := h _ rfl
    generalize upA H13 ((H13 (v0 : Int).toNat 1) : Int).toNat (up1 (H13 ((H13 (v0 : Int).toNat 1) : Int).toNat) ((x4 + 2) : Int).toNat ((v1 / 1073741824) % 1073741824)) = H22 at h ⊢
    refine r_aload_n 2 dX12_whole_53 rfl rfl ?_
    refine r_getf cls12 1 dX12_whole_54 (by decide) fl_RX12_7 rfl h1 h2 ?_
    refine r_iload_n 1 dX12_whole_57 rfl rfl ?_
    refine r_iconst dX12_whole_58 (by decide) (by decide) ?_
    obtain ⟨h23, h⟩ := h
    refine r_iadd dX12_whole_59 h23 ?_
    refine r_lload 0 dX12_whole_60 rfl ?_
    refine r_bipush dX12_whole_62 (by decide) (by decide) ?_
    refine r_lushr60 dX12_whole_64 h15 ?_
    obtain ⟨h24, h⟩ := h
    refine r_l2i dX12_whole_65 h24 ?_
    obtain ⟨h25, h⟩ := h
    obtain ⟨n26, h⟩ := h
    obtain ⟨h27, h⟩ := h
    obtain ⟨h28, h⟩ := h
    obtain ⟨h29, h⟩ := h
    refine r_iast n26 dX12_whole_66 h25 h27 h28 h29 ?_
    replace h := h _ rfl
    generalize upA H22 ((H22 (v0 : Int).toNat 1) : Int).toNat (up1 (H22 ((H22 (v0 : Int).toNat 1) : Int).toNat) ((x4 + 3) : Int).toNat (v1 / 1152921504606846976)) = H30 at h ⊢
    refine r_aload_n 2 dX12_whole_67 rfl rfl ?_
    refine r_iload_n 1 dX12_whole_68 rfl rfl ?_
    refine r_iconst dX12_whole_69 (by decide) (by decide) ?_
    refine r_lload_n 3 dX12_whole_70 rfl rfl ?_
    refine r_lconst0 dX12_whole_71 ?_
    refine r_lcmp dX12_whole_72 ?_
    refine r_if_ge (tgt := 80) dX12_whole_73 (by decide) (fun c31 => ?_) (fun c31 => ?_)
    · replace h := h.1 (fun q => c31 (cmpL_lt.mpr q))
      refine r_iconst dX12_whole_80 (by decide) (by decide) ?_
      refine r_invV (M := mX12_whole) (As := [(0, x4), (0, 3), (0, 0)]) (st := []) (X := v0) (mc := 0) (ms := 0) (fc := 0) (fs := 0) h ok_X12_done cls12 im_X12_done se_X12_done ml_RX12_102 dX12_whole_81 rfl h1 h2 (Nat.le_of_ble_eq_true rfl) rfl ?_
      rintro r K1 H32 ⟨rfl, x33, rfl, h⟩ -
      show Fr mX12_whole (d + 1) 0 0 none 84 [(4, (1, v1)), (3, (0, x4)), (0, (2, v0)), (1, (1, v1))] [(0, x33)] _ H32 _
      exact r_iret dX12_whole_84 rfl ⟨rfl, _, rfl, h⟩
    · replace h := h.2 (cmpL_lt.mp c31)
      refine r_iconst dX12_whole_76 (by decide) (by decide) ?_
      refine r_goto (tgt := 81) dX12_whole_77 (by decide) ?_
      refine r_invV (M := mX12_whole) (As := [(0, x4), (0, 3), (0, 1)]) (st := []) (X := v0) (mc := 0) (ms := 0) (fc := 0) (fs := 0) h ok_X12_done cls12 im_X12_done se_X12_done ml_RX12_102 dX12_whole_81 rfl h1 h2 (Nat.le_of_ble_eq_true rfl) rfl ?_
      rintro r K1 H34 ⟨rfl, x35, rfl, h⟩ -
      show Fr mX12_whole (d + 1) 0 0 none 84 [(4, (1, v1)), (3, (0, x4)), (0, (2, v0)), (1, (1, v1))] [(0, x35)] _ H34 _
      exact r_iret dX12_whole_84 rfl ⟨rfl, _, rfl, h⟩
  · replace h := h.2 (cmpL_lt.mp c5)
    refine r_lload_n 2 dX12_whole_12 rfl rfl ?_
    obtain ⟨h36, h⟩ := h
    refine r_lneg dX12_whole_13 h36 ?_
    refine r_goto (tgt := 18) dX12_whole_14 (by decide) ?_
    refine r_lstore dX12_whole_18 (by decide) rfl ?_
    refine r_aload_n 2 dX12_whole_20 rfl rfl ?_
    refine r_getf cls12 1 dX12_whole_21 (by decide) fl_RX12_7 rfl h1 h2 ?_
    refine r_iload_n 1 dX12_whole_24 rfl rfl ?_
    refine r_iconst dX12_whole_25 (by decide) (by decide) ?_
    obtain ⟨h37, h⟩ := h
    refine r_iadd dX12_whole_26 h37 ?_
    refine r_lload 0 dX12_whole_27 rfl ?_
    refine r_ldc2 (x := 1073741823) dX12_whole_29 kl_RX12_100 (by decide) (by decide) ?_
    refine r_land30 dX12_whole_32 ?_
    obtain ⟨h38, h⟩ := h
    refine r_l2i dX12_whole_33 h38 ?_
    obtain ⟨h39, h⟩ := h
    obtain ⟨n40, h⟩ := h
    obtain ⟨h41, h⟩ := h
    obtain ⟨h42, h⟩ := h
    obtain ⟨h43, h⟩ := h
    refine r_iast n40 dX12_whole_34 h39 h41 h42 h43 ?_
    replace h := h _ rfl
    generalize upA H3 ((H3 (v0 : Int).toNat 1) : Int).toNat (up1 (H3 ((H3 (v0 : Int).toNat 1) : Int).toNat) ((x4 + 1) : Int).toNat ((-v1) % 1073741824)) = H44 at h ⊢
    refine r_aload_n 2 dX12_whole_35 rfl rfl ?_
    refine r_getf cls12 1 dX12_whole_36 (by decide) fl_RX12_7 rfl h1 h2 ?_
    refine r_iload_n 1 dX12_whole_39 rfl rfl ?_
    refine r_iconst dX12_whole_40 (by decide) (by decide) ?_
    obtain ⟨h45, h⟩ := h
    refine r_iadd dX12_whole_41 h45 ?_
    refine r_lload 0 dX12_whole_42 rfl ?_
    refine r_bipush dX12_whole_44 (by decide) (by decide) ?_
    obtain ⟨h46, h⟩ := h
    refine r_lushr30 dX12_whole_46 h46 ?_
    refine r_ldc2 (x := 1073741823) dX12_whole_47 kl_RX12_100 (by decide) (by decide) ?_
    refine r_land30 dX12_whole_50 ?_
    obtain ⟨h47, h⟩ := h
    refine r_l2i dX12_whole_51 h47 ?_
    obtain ⟨h48, h⟩ := h
    obtain ⟨n49, h⟩ := h
    obtain ⟨h50, h⟩ := h
    obtain ⟨h51, h⟩ := h
    obtain ⟨h52, h⟩ := h
    refine r_iast n49 dX12_whole_52 h48 h50 h51 h52 ?_
    replace h := h _ rfl
    generalize upA H44 ((H44 (v0 : Int).toNat 1) : Int).toNat (up1 (H44 ((H44 (v0 : Int).toNat 1) : Int).toNat) ((x4 + 2) : Int).toNat (((-v1) / 1073741824) % 1073741824)) = H53 at h ⊢
    refine r_aload_n 2 dX12_whole_53 rfl rfl ?_
    refine r_getf cls12 1 dX12_whole_54 (by decide) fl_RX12_7 rfl h1 h2 ?_
    refine r_iload_n 1 dX12_whole_57 rfl rfl ?_
    refine r_iconst dX12_whole_58 (by decide) (by decide) ?_
    obtain ⟨h54, h⟩ := h
    refine r_iadd dX12_whole_59 h54 ?_
    refine r_lload 0 dX12_whole_60 rfl ?_
    refine r_bipush dX12_whole_62 (by decide) (by decide) ?_
    refine r_lushr60 dX12_whole_64 h46 ?_
    obtain ⟨h55, h⟩ := h
    refine r_l2i dX12_whole_65 h55 ?_
    obtain ⟨h56, h⟩ := h
    obtain ⟨n57, h⟩ := h
    obtain ⟨h58, h⟩ := h
    obtain ⟨h59, h⟩ := h
    obtain ⟨h60, h⟩ := h
    refine r_iast n57 dX12_whole_66 h56 h58 h59 h60 ?_
    replace h := h _ rfl
    generalize upA H53 ((H53 (v0 : Int).toNat 1) : Int).toNat (up1 (H53 ((H53 (v0 : Int).toNat 1) : Int).toNat) ((x4 + 3) : Int).toNat ((-v1) / 1152921504606846976)) = H61 at h ⊢
    refine r_aload_n 2 dX12_whole_67 rfl rfl ?_
    refine r_iload_n 1 dX12_whole_68 rfl rfl ?_
    refine r_iconst dX12_whole_69 (by decide) (by decide) ?_
    refine r_lload_n 3 dX12_whole_70 rfl rfl ?_
    refine r_lconst0 dX12_whole_71 ?_
    refine r_lcmp dX12_whole_72 ?_
    refine r_if_ge (tgt := 80) dX12_whole_73 (by decide) (fun c62 => ?_) (fun c62 => ?_)
    · replace h := h.1 (fun q => c62 (cmpL_lt.mpr q))
      refine r_iconst dX12_whole_80 (by decide) (by decide) ?_
      refine r_invV (M := mX12_whole) (As := [(0, x4), (0, 3), (0, 0)]) (st := []) (X := v0) (mc := 0) (ms := 0) (fc := 0) (fs := 0) h ok_X12_done cls12 im_X12_done se_X12_done ml_RX12_102 dX12_whole_81 rfl h1 h2 (Nat.le_of_ble_eq_true rfl) rfl ?_
      rintro r K1 H63 ⟨rfl, x64, rfl, h⟩ -
      show Fr mX12_whole (d + 1) 0 0 none 84 [(4, (1, (-v1))), (3, (0, x4)), (0, (2, v0)), (1, (1, v1))] [(0, x64)] _ H63 _
      exact r_iret dX12_whole_84 rfl ⟨rfl, _, rfl, h⟩
    · replace h := h.2 (cmpL_lt.mp c62)
      refine r_iconst dX12_whole_76 (by decide) (by decide) ?_
      refine r_goto (tgt := 81) dX12_whole_77 (by decide) ?_
      refine r_invV (M := mX12_whole) (As := [(0, x4), (0, 3), (0, 1)]) (st := []) (X := v0) (mc := 0) (ms := 0) (fc := 0) (fs := 0) h ok_X12_done cls12 im_X12_done se_X12_done ml_RX12_102 dX12_whole_81 rfl h1 h2 (Nat.le_of_ble_eq_true rfl) rfl ?_
      rintro r K1 H65 ⟨rfl, x66, rfl, h⟩ -
      show Fr mX12_whole (d + 1) 0 0 none 84 [(4, (1, (-v1))), (3, (0, x4)), (0, (2, v0)), (1, (1, v1))] [(0, x66)] _ H65 _
      exact r_iret dX12_whole_84 rfl ⟨rfl, _, rfl, h⟩
set_option maxHeartbeats 4000000 in
set_option maxRecDepth 20000 in
theorem eX12_whole {d : Nat} {K : Shp} {H : Mem} {q : Int → Mem → Prop} {v0 v1 : Int} (h : inL v1 → Rng K H → FX12_whole_0 d K H q v0 v1) : Ci mX12_whole (d + 1) [(2, v0), (1, v1)] K H q := Call.of rfl (Nat.le_of_ble_eq_true rfl) (fun o r => h (o (1, v1) (by simp)) r)
def FX12_copy_0 (d : Nat) (K : Shp) (H : Mem) (q : Int → Mem → Prop) (v0 : Int) (v1 : Int) : Prop := Fr mX12_copy (d + 1) 0 0 none 0 [(0, (2, v0)), (1, (0, v1))] [] K H (qi K q)
def FX12_copy_15 (d : Nat) (K : Shp) (H : Mem) (q : Int → Mem → Prop) (v0 : Int) (v1 : Int) (v2 : Int) (v3 : Int) (v4 : Int) : Prop := Fr mX12_copy (d + 1) 0 0 none 15 [(0, (2, v0)), (1, (0, v1)), (2, (0, v2)), (3, (0, v3)), (4, (0, v4))] [] K H (qi K q)
set_option maxHeartbeats 4000000 in
set_option maxRecDepth 20000 in
theorem bX12_copy_0 {d : Nat} {K : Shp} {H : Mem} {q : Int → Mem → Prop} {v0 v1 : Int} (h : ((0 : Int) ≤ v0) ∧ (K[(v0 : Int).toNat]? = some (12, 51)) ∧ Ci mX12_places d [(2, v0), (0, v1)] K H (fun x4 H3 => Ci mX12_room d [(2, v0), (0, x4)] K H3 (fun x6 H5 => FX12_copy_15 d K H5 q (v0) (v1) (x4) (x6) (0)))) : FX12_copy_0 d K H q (v0) (v1) := by
  unfold FX12_copy_0
  refine r_aload_n 0 dX12_copy_0 rfl rfl ?_
  refine r_iload_n 1 dX12_copy_1 rfl rfl ?_
  obtain ⟨h1, h⟩ := h
  obtain ⟨h2, h⟩ := h
  refine r_invV (M := mX12_copy) (As := [(0, v1)]) (st := []) (X := v0) (mc := 0) (ms := 0) (fc := 0) (fs := 0) h ok_X12_places cls12 im_X12_places se_X12_places ml_RX12_106 dX12_copy_2 rfl h1 h2 (Nat.le_of_ble_eq_true rfl) rfl ?_
  rintro r K1 H3 ⟨rfl, x4, rfl, h⟩ -
  show Fr mX12_copy (d + 1) 0 0 none 5 [(0, (2, v0)), (1, (0, v1))] [(0, x4)] _ H3 _
  refine r_istore_n dX12_copy_5 rfl (by decide) rfl ?_
  refine r_aload_n 1 dX12_copy_6 rfl rfl ?_
  refine r_iload_n 0 dX12_copy_7 rfl rfl ?_
  refine r_invV (M := mX12_copy) (As := [(0, x4)]) (st := []) (X := v0) (mc := 0) (ms := 0) (fc := 0) (fs := 0) h ok_X12_room cls12 im_X12_room se_X12_room ml_RX12_96 dX12_copy_8 rfl h1 h2 (Nat.le_of_ble_eq_true rfl) rfl ?_
  rintro r K1 H5 ⟨rfl, x6, rfl, h⟩ -
  show Fr mX12_copy (d + 1) 0 0 none 11 [(2, (0, x4)), (0, (2, v0)), (1, (0, v1))] [(0, x6)] _ H5 _
  refine r_istore_n dX12_copy_11 rfl (by decide) rfl ?_
  refine r_iconst dX12_copy_12 (by decide) (by decide) ?_
  refine r_istore dX12_copy_13 (by decide) rfl ?_
  refine Fr.fewer [3, 4, 2, 1, 0] rfl ?_
  exact h
set_option maxHeartbeats 4000000 in
set_option maxRecDepth 20000 in
theorem bX12_copy_15 {d : Nat} {K : Shp} {H : Mem} {q : Int → Mem → Prop} {v0 v1 v2 v3 v4 : Int} (h : ((¬ (v4 : Int) ≤ v2 → q v3 H) ∧ ((v4 : Int) ≤ v2 → ((0 : Int) ≤ v0) ∧ (K[(v0 : Int).toNat]? = some (12, 51)) ∧ (inI (v3 + v4)) ∧ (inI (v1 + v4)) ∧ ((0 : Int) ≤ (H (v0 : Int).toNat 1)) ∧ ∃ n7 : Nat, (K[((H (v0 : Int).toNat 1) : Int).toNat]? = some (20, n7)) ∧ ((0 : Int) ≤ (v1 + v4)) ∧ (((v1 + v4) : Int) < n7) ∧ ((0 : Int) ≤ (v3 + v4)) ∧ (((v3 + v4) : Int) < n7) ∧ ∀ H13 : Mem, H13 = upA H ((H (v0 : Int).toNat 1) : Int).toNat (up1 (H ((H (v0 : Int).toNat 1) : Int).toNat) ((v3 + v4) : Int).toNat (H ((H (v0 : Int).toNat 1) : Int).toNat ((v1 + v4) : Int).toNat)) → (inI (v4 + 1)) ∧ FX12_copy_15 d K H13 q (v0) (v1) (v2) (v3) ((v4 + 1))))) : FX12_copy_15 d K H q (v0) (v1) (v2) (v3) (v4) := by
  unfold FX12_copy_15
  refine r_iload 4 dX12_copy_15 rfl ?_
  refine r_iload_n 2 dX12_copy_17 rfl rfl ?_
  refine r_icmp_gt (tgt := 45) dX12_copy_18 (by decide) (fun c1 => ?_) (fun c1 => ?_)
  · replace h := h.1 c1
    refine r_iload_n 3 dX12_copy_45 rfl rfl ?_
    exact r_iret dX12_copy_46 rfl ⟨rfl, _, rfl, h⟩
  · replace h := h.2 c1
    refine r_aload_n 0 dX12_copy_21 rfl rfl ?_
    obtain ⟨h2, h⟩ := h
    obtain ⟨h3, h⟩ := h
    refine r_getf cls12 1 dX12_copy_22 (by decide) fl_RX12_7 rfl h2 h3 ?_
    refine r_iload_n 3 dX12_copy_25 rfl rfl ?_
    refine r_iload 4 dX12_copy_26 rfl ?_
    obtain ⟨h4, h⟩ := h
    refine r_iadd dX12_copy_28 h4 ?_
    refine r_aload_n 0 dX12_copy_29 rfl rfl ?_
    refine r_getf cls12 1 dX12_copy_30 (by decide) fl_RX12_7 rfl h2 h3 ?_
    refine r_iload_n 1 dX12_copy_33 rfl rfl ?_
    refine r_iload 4 dX12_copy_34 rfl ?_
    obtain ⟨h5, h⟩ := h
    refine r_iadd dX12_copy_36 h5 ?_
    obtain ⟨h6, h⟩ := h
    obtain ⟨n7, h⟩ := h
    obtain ⟨h8, h⟩ := h
    obtain ⟨h9, h⟩ := h
    obtain ⟨h10, h⟩ := h
    refine r_iald n7 dX12_copy_37 h6 h8 h9 h10 ?_
    obtain ⟨h11, h⟩ := h
    obtain ⟨h12, h⟩ := h
    refine r_iast n7 dX12_copy_38 h6 h8 h11 h12 ?_
    replace h := h _ rfl
    generalize upA H ((H (v0 : Int).toNat 1) : Int).toNat (up1 (H ((H (v0 : Int).toNat 1) : Int).toNat) ((v3 + v4) : Int).toNat (H ((H (v0 : Int).toNat 1) : Int).toNat ((v1 + v4) : Int).toNat)) = H13 at h ⊢
    obtain ⟨h14, h⟩ := h
    refine r_iinc 4 dX12_copy_39 (by decide) rfl h14 rfl ?_
    refine r_goto (tgt := 15) dX12_copy_42 (by decide) ?_
    refine Fr.fewer [1, 2, 3, 4, 0] rfl ?_
    exact h
set_option maxHeartbeats 4000000 in
set_option maxRecDepth 20000 in
theorem eX12_copy {d : Nat} {K : Shp} {H : Mem} {q : Int → Mem → Prop} {v0 v1 : Int} (h : inI v1 → Rng K H → FX12_copy_0 d K H q v0 v1) : Ci mX12_copy (d + 1) [(2, v0), (0, v1)] K H q := Call.of rfl (Nat.le_of_ble_eq_true rfl) (fun o r => h (o (0, v1) (by simp)) r)
def FX12_turned_0 (d : Nat) (K : Shp) (H : Mem) (q : Int → Mem → Prop) (v0 : Int) (v1 : Int) : Prop := Fr mX12_turned (d + 1) 0 0 none 0 [(0, (2, v0)), (1, (0, v1))] [] K H (qi K q)
set_option maxHeartbeats 4000000 in
set_option maxRecDepth 20000 in
theorem bX12_turned_0 {d : Nat} {K : Shp} {H : Mem} {q : Int → Mem → Prop} {v0 v1 : Int} (h : ((0 : Int) ≤ v0) ∧ (K[(v0 : Int).toNat]? = some (12, 51)) ∧ Ci mX12_copy d [(2, v0), (0, v1)] K H (fun x4 H3 => ((0 : Int) ≤ (H3 (v0 : Int).toNat 1)) ∧ ∃ n6 : Nat, (K[((H3 (v0 : Int).toNat 1) : Int).toNat]? = some (20, n6)) ∧ ((0 : Int) ≤ x4) ∧ ((x4 : Int) < n6) ∧ (inI (-(H3 ((H3 (v0 : Int).toNat 1) : Int).toNat (x4 : Int).toNat))) ∧ ∀ H11 : Mem, H11 = upA H3 ((H3 (v0 : Int).toNat 1) : Int).toNat (up1 (H3 ((H3 (v0 : Int).toNat 1) : Int).toNat) (x4 : Int).toNat (-(H3 ((H3 (v0 : Int).toNat 1) : Int).toNat (x4 : Int).toNat))) → q x4 H11)) : FX12_turned_0 d K H q (v0) (v1) := by
  unfold FX12_turned_0
  refine r_aload_n 0 dX12_turned_0 rfl rfl ?_
  refine r_iload_n 1 dX12_turned_1 rfl rfl ?_
  obtain ⟨h1, h⟩ := h
  obtain ⟨h2, h⟩ := h
  refine r_invV (M := mX12_turned) (As := [(0, v1)]) (st := []) (X := v0) (mc := 0) (ms := 0) (fc := 0) (fs := 0) h ok_X12_copy cls12 im_X12_copy se_X12_copy ml_RX12_109 dX12_turned_2 rfl h1 h2 (Nat.le_of_ble_eq_true rfl) rfl ?_
  rintro r K1 H3 ⟨rfl, x4, rfl, h⟩ -
  show Fr mX12_turned (d + 1) 0 0 none 5 [(0, (2, v0)), (1, (0, v1))] [(0, x4)] _ H3 _
  refine r_istore_n dX12_turned_5 rfl (by decide) rfl ?_
  refine r_aload_n 1 dX12_turned_6 rfl rfl ?_
  refine r_getf cls12 1 dX12_turned_7 (by decide) fl_RX12_7 rfl h1 h2 ?_
  refine r_iload_n 0 dX12_turned_10 rfl rfl ?_
  refine r_aload_n 1 dX12_turned_11 rfl rfl ?_
  refine r_getf cls12 1 dX12_turned_12 (by decide) fl_RX12_7 rfl h1 h2 ?_
  refine r_iload_n 0 dX12_turned_15 rfl rfl ?_
  obtain ⟨h5, h⟩ := h
  obtain ⟨n6, h⟩ := h
  obtain ⟨h7, h⟩ := h
  obtain ⟨h8, h⟩ := h
  obtain ⟨h9, h⟩ := h
  refine r_iald n6 dX12_turned_16 h5 h7 h8 h9 ?_
  obtain ⟨h10, h⟩ := h
  refine r_ineg dX12_turned_17 h10 ?_
  refine r_iast n6 dX12_turned_18 h5 h7 h8 h9 ?_
  replace h := h _ rfl
  generalize upA H3 ((H3 (v0 : Int).toNat 1) : Int).toNat (up1 (H3 ((H3 (v0 : Int).toNat 1) : Int).toNat) (x4 : Int).toNat (-(H3 ((H3 (v0 : Int).toNat 1) : Int).toNat (x4 : Int).toNat))) = H11 at h ⊢
  refine r_iload_n 0 dX12_turned_19 rfl rfl ?_
  exact r_iret dX12_turned_20 rfl ⟨rfl, _, rfl, h⟩
set_option maxHeartbeats 4000000 in
set_option maxRecDepth 20000 in
theorem eX12_turned {d : Nat} {K : Shp} {H : Mem} {q : Int → Mem → Prop} {v0 v1 : Int} (h : inI v1 → Rng K H → FX12_turned_0 d K H q v0 v1) : Ci mX12_turned (d + 1) [(2, v0), (0, v1)] K H q := Call.of rfl (Nat.le_of_ble_eq_true rfl) (fun o r => h (o (0, v1) (by simp)) r)
def FX12_compareSizes_0 (d : Nat) (K : Shp) (H : Mem) (q : Int → Mem → Prop) (v0 : Int) (v1 : Int) (v2 : Int) : Prop := Fr mX12_compareSizes (d + 1) 0 0 none 0 [(0, (2, v0)), (1, (0, v1)), (2, (0, v2))] [] K H (qi K q)
def FX12_compareSizes_33 (d : Nat) (K : Shp) (H : Mem) (q : Int → Mem → Prop) (v0 : Int) (v1 : Int) (v2 : Int) (v4 : Int) : Prop := Fr mX12_compareSizes (d + 1) 0 0 none 33 [(0, (2, v0)), (1, (0, v1)), (2, (0, v2)), (4, (0, v4))] [] K H (qi K q)
set_option maxHeartbeats 4000000 in
set_option maxRecDepth 20000 in
theorem bX12_compareSizes_0 {d : Nat} {K : Shp} {H : Mem} {q : Int → Mem → Prop} {v0 v1 v2 : Int} (h : ((0 : Int) ≤ v0) ∧ (K[(v0 : Int).toNat]? = some (12, 51)) ∧ Ci mX12_places d [(2, v0), (0, v1)] K H (fun x4 H3 => Ci mX12_places d [(2, v0), (0, v2)] K H3 (fun x6 H5 => (((x4 : Int) = x6 → FX12_compareSizes_33 d K H5 q (v0) (v1) (v2) (x4)) ∧ (¬ (x4 : Int) = x6 → Ci mX12_places d [(2, v0), (0, v2)] K H5 (fun x9 H8 => (((x4 : Int) ≤ x9 → q (-1) H8) ∧ (¬ (x4 : Int) ≤ x9 → q 1 H8)))))))) : FX12_compareSizes_0 d K H q (v0) (v1) (v2) := by
  unfold FX12_compareSizes_0
  refine r_aload_n 0 dX12_compareSizes_0 rfl rfl ?_
  refine r_iload_n 1 dX12_compareSizes_1 rfl rfl ?_
  obtain ⟨h1, h⟩ := h
  obtain ⟨h2, h⟩ := h
  refine r_invV (M := mX12_compareSizes) (As := [(0, v1)]) (st := []) (X := v0) (mc := 0) (ms := 0) (fc := 0) (fs := 0) h ok_X12_places cls12 im_X12_places se_X12_places ml_RX12_106 dX12_compareSizes_2 rfl h1 h2 (Nat.le_of_ble_eq_true rfl) rfl ?_
  rintro r K1 H3 ⟨rfl, x4, rfl, h⟩ -
  show Fr mX12_compareSizes (d + 1) 0 0 none 5 [(0, (2, v0)), (1, (0, v1)), (2, (0, v2))] [(0, x4)] _ H3 _
  refine r_istore_n dX12_compareSizes_5 rfl (by decide) rfl ?_
  refine r_iload_n 0 dX12_compareSizes_6 rfl rfl ?_
  refine r_aload_n 1 dX12_compareSizes_7 rfl rfl ?_
  refine r_iload_n 3 dX12_compareSizes_8 rfl rfl ?_
  refine r_invV (M := mX12_compareSizes) (As := [(0, v2)]) (st := [(0, x4)]) (X := v0) (mc := 0) (ms := 0) (fc := 0) (fs := 0) h ok_X12_places cls12 im_X12_places se_X12_places ml_RX12_106 dX12_compareSizes_9 rfl h1 h2 (Nat.le_of_ble_eq_true rfl) rfl ?_
  rintro r K1 H5 ⟨rfl, x6, rfl, h⟩ -
  show Fr mX12_compareSizes (d + 1) 0 0 none 12 [(3, (0, x4)), (0, (2, v0)), (1, (0, v1)), (2, (0, v2))] [(0, x6), (0, x4)] _ H5 _
  refine r_icmp_eq (tgt := 30) dX12_compareSizes_12 (by decide) (fun c7 => ?_) (fun c7 => ?_)
  · replace h := h.1 c7
    refine r_iload_n 0 dX12_compareSizes_30 rfl rfl ?_
    refine r_istore dX12_compareSizes_31 (by decide) rfl ?_
    refine Fr.fewer [2, 3, 4, 0] rfl ?_
    exact h
  · replace h := h.2 c7
    refine r_iload_n 0 dX12_compareSizes_15 rfl rfl ?_
    refine r_aload_n 1 dX12_compareSizes_16 rfl rfl ?_
    refine r_iload_n 3 dX12_compareSizes_17 rfl rfl ?_
    refine r_invV (M := mX12_compareSizes) (As := [(0, v2)]) (st := [(0, x4)]) (X := v0) (mc := 0) (ms := 0) (fc := 0) (fs := 0) h ok_X12_places cls12 im_X12_places se_X12_places ml_RX12_106 dX12_compareSizes_18 rfl h1 h2 (Nat.le_of_ble_eq_true rfl) rfl ?_
    rintro r K1 H8 ⟨rfl, x9, rfl, h⟩ -
    show Fr mX12_compareSizes (d + 1) 0 0 none 21 [(3, (0, x4)), (0, (2, v0)), (1, (0, v1)), (2, (0, v2))] [(0, x9), (0, x4)] _ H8 _
    refine r_icmp_le (tgt := 28) dX12_compareSizes_21 (by decide) (fun c10 => ?_) (fun c10 => ?_)
    · replace h := h.1 c10
      refine r_iconst dX12_compareSizes_28 (by decide) (by decide) ?_
      exact r_iret dX12_compareSizes_29 rfl ⟨rfl, _, rfl, h⟩
    · replace h := h.2 c10
      refine r_iconst dX12_compareSizes_24 (by decide) (by decide) ?_
      refine r_goto (tgt := 29) dX12_compareSizes_25 (by decide) ?_
      exact r_iret dX12_compareSizes_29 rfl ⟨rfl, _, rfl, h⟩
set_option maxHeartbeats 4000000 in
set_option maxRecDepth 20000 in
theorem bX12_compareSizes_33 {d : Nat} {K : Shp} {H : Mem} {q : Int → Mem → Prop} {v0 v1 v2 v4 : Int} (h : (((v4 : Int) ≤ 0 → q 0 H) ∧ (¬ (v4 : Int) ≤ 0 → ((0 : Int) ≤ v0) ∧ (K[(v0 : Int).toNat]? = some (12, 51)) ∧ (inI (v1 + v4)) ∧ ((0 : Int) ≤ (H (v0 : Int).toNat 1)) ∧ ∃ n6 : Nat, (K[((H (v0 : Int).toNat 1) : Int).toNat]? = some (20, n6)) ∧ ((0 : Int) ≤ (v1 + v4)) ∧ (((v1 + v4) : Int) < n6) ∧ (inI (v2 + v4)) ∧ ((0 : Int) ≤ (v2 + v4)) ∧ (((v2 + v4) : Int) < n6) ∧ ((((H ((H (v0 : Int).toNat 1) : Int).toNat ((v1 + v4) : Int).toNat) : Int) = (H ((H (v0 : Int).toNat 1) : Int).toNat ((v2 + v4) : Int).toNat) → (inI (v4 + (-1))) ∧ FX12_compareSizes_33 d K H q (v0) (v1) (v2) ((v4 + (-1)))) ∧ (¬ ((H ((H (v0 : Int).toNat 1) : Int).toNat ((v1 + v4) : Int).toNat) : Int) = (H ((H (v0 : Int).toNat 1) : Int).toNat ((v2 + v4) : Int).toNat) → ((((H ((H (v0 : Int).toNat 1) : Int).toNat ((v1 + v4) : Int).toNat) : Int) ≤ (H ((H (v0 : Int).toNat 1) : Int).toNat ((v2 + v4) : Int).toNat) → q (-1) H) ∧ (¬ ((H ((H (v0 : Int).toNat 1) : Int).toNat ((v1 + v4) : Int).toNat) : Int) ≤ (H ((H (v0 : Int).toNat 1) : Int).toNat ((v2 + v4) : Int).toNat) → q 1 H))))))) : FX12_compareSizes_33 d K H q (v0) (v1) (v2) (v4) := by
  unfold FX12_compareSizes_33
  refine r_iload 3 dX12_compareSizes_33 rfl ?_
  refine r_if_le (tgt := 92) dX12_compareSizes_35 (by decide) (fun c1 => ?_) (fun c1 => ?_)
  · replace h := h.1 c1
    refine r_iconst dX12_compareSizes_92 (by decide) (by decide) ?_
    exact r_iret dX12_compareSizes_93 rfl ⟨rfl, _, rfl, h⟩
  · replace h := h.2 c1
    refine r_aload_n 0 dX12_compareSizes_38 rfl rfl ?_
    obtain ⟨h2, h⟩ := h
    obtain ⟨h3, h⟩ := h
    refine r_getf cls12 1 dX12_compareSizes_39 (by decide) fl_RX12_7 rfl h2 h3 ?_
    refine r_iload_n 1 dX12_compareSizes_42 rfl rfl ?_
    refine r_iload 3 dX12_compareSizes_43 rfl ?_
    obtain ⟨h4, h⟩ := h
    refine r_iadd dX12_compareSizes_45 h4 ?_
    obtain ⟨h5, h⟩ := h
    obtain ⟨n6, h⟩ := h
    obtain ⟨h7, h⟩ := h
    obtain ⟨h8, h⟩ := h
    obtain ⟨h9, h⟩ := h
    refine r_iald n6 dX12_compareSizes_46 h5 h7 h8 h9 ?_
    refine r_aload_n 0 dX12_compareSizes_47 rfl rfl ?_
    refine r_getf cls12 1 dX12_compareSizes_48 (by decide) fl_RX12_7 rfl h2 h3 ?_
    refine r_iload_n 2 dX12_compareSizes_51 rfl rfl ?_
    refine r_iload 3 dX12_compareSizes_52 rfl ?_
    obtain ⟨h10, h⟩ := h
    refine r_iadd dX12_compareSizes_54 h10 ?_
    obtain ⟨h11, h⟩ := h
    obtain ⟨h12, h⟩ := h
    refine r_iald n6 dX12_compareSizes_55 h5 h7 h11 h12 ?_
    refine r_icmp_eq (tgt := 86) dX12_compareSizes_56 (by decide) (fun c13 => ?_) (fun c13 => ?_)
    · replace h := h.1 c13
      obtain ⟨h14, h⟩ := h
      refine r_iinc 3 dX12_compareSizes_86 (by decide) rfl h14 rfl ?_
      refine r_goto (tgt := 33) dX12_compareSizes_89 (by decide) ?_
      refine Fr.fewer [1, 2, 3, 0] rfl ?_
      exact h
    · replace h := h.2 c13
      refine r_aload_n 0 dX12_compareSizes_59 rfl rfl ?_
      refine r_getf cls12 1 dX12_compareSizes_60 (by decide) fl_RX12_7 rfl h2 h3 ?_
      refine r_iload_n 1 dX12_compareSizes_63 rfl rfl ?_
      refine r_iload 3 dX12_compareSizes_64 rfl ?_
      refine r_iadd dX12_compareSizes_66 h4 ?_
      refine r_iald n6 dX12_compareSizes_67 h5 h7 h8 h9 ?_
      refine r_aload_n 0 dX12_compareSizes_68 rfl rfl ?_
      refine r_getf cls12 1 dX12_compareSizes_69 (by decide) fl_RX12_7 rfl h2 h3 ?_
      refine r_iload_n 2 dX12_compareSizes_72 rfl rfl ?_
      refine r_iload 3 dX12_compareSizes_73 rfl ?_
      refine r_iadd dX12_compareSizes_75 h10 ?_
      refine r_iald n6 dX12_compareSizes_76 h5 h7 h11 h12 ?_
      refine r_icmp_le (tgt := 84) dX12_compareSizes_77 (by decide) (fun c15 => ?_) (fun c15 => ?_)
      · replace h := h.1 c15
        refine r_iconst dX12_compareSizes_84 (by decide) (by decide) ?_
        exact r_iret dX12_compareSizes_85 rfl ⟨rfl, _, rfl, h⟩
      · replace h := h.2 c15
        refine r_iconst dX12_compareSizes_80 (by decide) (by decide) ?_
        refine r_goto (tgt := 85) dX12_compareSizes_81 (by decide) ?_
        exact r_iret dX12_compareSizes_85 rfl ⟨rfl, _, rfl, h⟩
set_option maxHeartbeats 4000000 in
set_option maxRecDepth 20000 in
theorem eX12_compareSizes {d : Nat} {K : Shp} {H : Mem} {q : Int → Mem → Prop} {v0 v1 v2 : Int} (h : inI v1 → inI v2 → Rng K H → FX12_compareSizes_0 d K H q v0 v1 v2) : Ci mX12_compareSizes (d + 1) [(2, v0), (0, v1), (0, v2)] K H q := Call.of rfl (Nat.le_of_ble_eq_true rfl) (fun o r => h (o (0, v1) (by simp)) (o (0, v2) (by simp)) r)
def FX12_sum_0 (d : Nat) (K : Shp) (H : Mem) (q : Int → Mem → Prop) (v0 : Int) (v1 : Int) (v2 : Int) : Prop := Fr mX12_sum (d + 1) 0 0 none 0 [(0, (2, v0)), (1, (0, v1)), (2, (0, v2))] [] K H (qi K q)
def FX12_sum_214 (d : Nat) (K : Shp) (H : Mem) (q : Int → Mem → Prop) (v0 : Int) (v4 : Int) (s0 : Int) : Prop := Fr mX12_sum (d + 1) 0 0 none 214 [(0, (2, v0)), (4, (0, v4))] [(0, s0)] K H (qi K q)
def FX12_sum_70 (d : Nat) (K : Shp) (H : Mem) (q : Int → Mem → Prop) (v0 : Int) (v1 : Int) (v2 : Int) (v3 : Int) (v4 : Int) (v5 : Int) (v6 : Int) : Prop := Fr mX12_sum (d + 1) 0 0 none 70 [(0, (2, v0)), (1, (0, v1)), (2, (0, v2)), (3, (0, v3)), (4, (0, v4)), (5, (0, v5)), (6, (0, v6))] [] K H (qi K q)
def FX12_sum_238 (d : Nat) (K : Shp) (H : Mem) (q : Int → Mem → Prop) (v0 : Int) (v4 : Int) (v5 : Int) (v6 : Int) (v7 : Int) (v8 : Int) (v9 : Int) : Prop := Fr mX12_sum (d + 1) 0 0 none 238 [(0, (2, v0)), (4, (0, v4)), (5, (0, v5)), (6, (0, v6)), (7, (0, v7)), (8, (0, v8)), (9, (0, v9))] [] K H (qi K q)
def FX12_sum_101 (d : Nat) (K : Shp) (H : Mem) (q : Int → Mem → Prop) (v0 : Int) (v1 : Int) (v2 : Int) (v3 : Int) (v4 : Int) (v6 : Int) (s0 : Int) (s1 : Int) : Prop := Fr mX12_sum (d + 1) 0 0 none 101 [(0, (2, v0)), (1, (0, v1)), (2, (0, v2)), (3, (0, v3)), (4, (0, v4)), (6, (0, v6))] [(0, s0), (0, s1)] K H (qi K q)
def FX12_sum_296 (d : Nat) (K : Shp) (H : Mem) (q : Int → Mem → Prop) (v0 : Int) (v4 : Int) (v5 : Int) (v6 : Int) (v7 : Int) (v9 : Int) (v10 : Int) (s0 : Int) : Prop := Fr mX12_sum (d + 1) 0 0 none 296 [(0, (2, v0)), (4, (0, v4)), (5, (0, v5)), (6, (0, v6)), (7, (0, v7)), (9, (0, v9)), (10, (0, v10))] [(0, s0)] K H (qi K q)
def FX12_sum_125 (d : Nat) (K : Shp) (H : Mem) (q : Int → Mem → Prop) (v0 : Int) (v1 : Int) (v2 : Int) (v3 : Int) (v4 : Int) (v6 : Int) (s0 : Int) (s1 : Int) : Prop := Fr mX12_sum (d + 1) 0 0 none 125 [(0, (2, v0)), (1, (0, v1)), (2, (0, v2)), (3, (0, v3)), (4, (0, v4)), (6, (0, v6))] [(0, s0), (0, s1)] K H (qi K q)
set_option maxHeartbeats 4000000 in
set_option maxRecDepth 20000 in
theorem bX12_sum_0 {d : Nat} {K : Shp} {H : Mem} {q : Int → Mem → Prop} {v0 v1 v2 : Int} (h : ((0 : Int) ≤ v0) ∧ (K[(v0 : Int).toNat]? = some (12, 51)) ∧ Ci mX12_sign d [(2, v0), (0, v1)] K H (fun x4 H3 => ((¬ (x4 : Int) = 0 → Ci mX12_sign d [(2, v0), (0, v2)] K H3 (fun x7 H6 => ((¬ (x7 : Int) = 0 → Ci mX12_sign d [(2, v0), (0, v1)] K H6 (fun x10 H9 => Ci mX12_sign d [(2, v0), (0, v2)] K H9 (fun x12 H11 => ((¬ (x10 : Int) = x12 → Ci mX12_compareSizes d [(2, v0), (0, v1), (0, v2)] K H11 (fun x15 H14 => ((¬ (x15 : Int) = 0 → (((x15 : Int) ≤ 0 → (((x15 : Int) ≤ 0 → FX12_sum_214 d K H14 q (v0) (v2) (v1)) ∧ (¬ (x15 : Int) ≤ 0 → FX12_sum_214 d K H14 q (v0) (v2) (v2)))) ∧ (¬ (x15 : Int) ≤ 0 → (((x15 : Int) ≤ 0 → FX12_sum_214 d K H14 q (v0) (v1) (v1)) ∧ (¬ (x15 : Int) ≤ 0 → FX12_sum_214 d K H14 q (v0) (v1) (v2)))))) ∧ ((x15 : Int) = 0 → Ci mX12_whole d [(2, v0), (1, 0)] K H14 (fun x21 H20 => q x21 H20))))) ∧ ((x10 : Int) = x12 → Ci mX12_places d [(2, v0), (0, v1)] K H11 (fun x23 H22 => Ci mX12_places d [(2, v0), (0, v2)] K H22 (fun x25 H24 => (inI ((max x23 x25) + 1)) ∧ Ci mX12_room d [(2, v0), (0, ((max x23 x25) + 1))] K H24 (fun x28 H27 => FX12_sum_70 d K H27 q (v0) (v1) (v2) (((max x23 x25) + 1)) (x28) (0) (1))))))))) ∧ ((x7 : Int) = 0 → Ci mX12_copy d [(2, v0), (0, v1)] K H6 (fun x30 H29 => q x30 H29))))) ∧ ((x4 : Int) = 0 → Ci mX12_copy d [(2, v0), (0, v2)] K H3 (fun x32 H31 => q x32 H31))))) : FX12_sum_0 d K H q (v0) (v1) (v2) := by
  unfold FX12_sum_0
  refine r_aload_n 0 dX12_sum_0 rfl rfl ?_
  refine r_iload_n 1 dX12_sum_1 rfl rfl ?_
  obtain ⟨h1, h⟩ := h
  obtain ⟨h2, h⟩ := h
  refine r_invV (M := mX12_sum) (As := [(0, v1)]) (st := []) (X := v0) (mc := 0) (ms := 0) (fc := 0) (fs := 0) h ok_X12_sign cls12 im_X12_sign se_X12_sign ml_RX12_112 dX12_sum_2 rfl h1 h2 (Nat.le_of_ble_eq_true rfl) rfl ?_
  rintro r K1 H3 ⟨rfl, x4, rfl, h⟩ -
  show Fr mX12_sum (d + 1) 0 0 none 5 [(0, (2, v0)), (1, (0, v1)), (2, (0, v2))] [(0, x4)] _ H3 _
  refine r_if_ne (tgt := 14) dX12_sum_5 (by decide) (fun c5 => ?_) (fun c5 => ?_)
  · replace h := h.1 c5
    refine r_aload_n 0 dX12_sum_14 rfl rfl ?_
    refine r_iload_n 2 dX12_sum_15 rfl rfl ?_
    refine r_invV (M := mX12_sum) (As := [(0, v2)]) (st := []) (X := v0) (mc := 0) (ms := 0) (fc := 0) (fs := 0) h ok_X12_sign cls12 im_X12_sign se_X12_sign ml_RX12_112 dX12_sum_16 rfl h1 h2 (Nat.le_of_ble_eq_true rfl) rfl ?_
    rintro r K1 H6 ⟨rfl, x7, rfl, h⟩ -
    show Fr mX12_sum (d + 1) 0 0 none 19 [(0, (2, v0)), (1, (0, v1)), (2, (0, v2))] [(0, x7)] _ H6 _
    refine r_if_ne (tgt := 28) dX12_sum_19 (by decide) (fun c8 => ?_) (fun c8 => ?_)
    · replace h := h.1 c8
      refine r_aload_n 0 dX12_sum_28 rfl rfl ?_
      refine r_iload_n 1 dX12_sum_29 rfl rfl ?_
      refine r_invV (M := mX12_sum) (As := [(0, v1)]) (st := []) (X := v0) (mc := 0) (ms := 0) (fc := 0) (fs := 0) h ok_X12_sign cls12 im_X12_sign se_X12_sign ml_RX12_112 dX12_sum_30 rfl h1 h2 (Nat.le_of_ble_eq_true rfl) rfl ?_
      rintro r K1 H9 ⟨rfl, x10, rfl, h⟩ -
      show Fr mX12_sum (d + 1) 0 0 none 33 [(0, (2, v0)), (1, (0, v1)), (2, (0, v2))] [(0, x10)] _ H9 _
      refine r_aload_n 0 dX12_sum_33 rfl rfl ?_
      refine r_iload_n 2 dX12_sum_34 rfl rfl ?_
      refine r_invV (M := mX12_sum) (As := [(0, v2)]) (st := [(0, x10)]) (X := v0) (mc := 0) (ms := 0) (fc := 0) (fs := 0) h ok_X12_sign cls12 im_X12_sign se_X12_sign ml_RX12_112 dX12_sum_35 rfl h1 h2 (Nat.le_of_ble_eq_true rfl) rfl ?_
      rintro r K1 H11 ⟨rfl, x12, rfl, h⟩ -
      show Fr mX12_sum (d + 1) 0 0 none 38 [(0, (2, v0)), (1, (0, v1)), (2, (0, v2))] [(0, x12), (0, x10)] _ H11 _
      refine r_icmp_ne (tgt := 177) dX12_sum_38 (by decide) (fun c13 => ?_) (fun c13 => ?_)
      · replace h := h.1 c13
        refine r_aload_n 0 dX12_sum_177 rfl rfl ?_
        refine r_iload_n 1 dX12_sum_178 rfl rfl ?_
        refine r_iload_n 2 dX12_sum_179 rfl rfl ?_
        refine r_invV (M := mX12_sum) (As := [(0, v1), (0, v2)]) (st := []) (X := v0) (mc := 0) (ms := 0) (fc := 0) (fs := 0) h ok_X12_compareSizes cls12 im_X12_compareSizes se_X12_compareSizes ml_RX12_122 dX12_sum_180 rfl h1 h2 (Nat.le_of_ble_eq_true rfl) rfl ?_
        rintro r K1 H14 ⟨rfl, x15, rfl, h⟩ -
        show Fr mX12_sum (d + 1) 0 0 none 183 [(0, (2, v0)), (1, (0, v1)), (2, (0, v2))] [(0, x15)] _ H14 _
        refine r_istore_n dX12_sum_183 rfl (by decide) rfl ?_
        refine r_iload_n 0 dX12_sum_184 rfl rfl ?_
        refine r_if_ne (tgt := 194) dX12_sum_185 (by decide) (fun c16 => ?_) (fun c16 => ?_)
        · replace h := h.1 c16
          refine r_iload_n 0 dX12_sum_194 rfl rfl ?_
          refine r_if_le (tgt := 202) dX12_sum_195 (by decide) (fun c17 => ?_) (fun c17 => ?_)
          · replace h := h.1 c17
            refine r_iload_n 3 dX12_sum_202 rfl rfl ?_
            refine r_istore dX12_sum_203 (by decide) rfl ?_
            refine r_iload_n 1 dX12_sum_205 rfl rfl ?_
            refine r_if_le (tgt := 213) dX12_sum_206 (by decide) (fun c18 => ?_) (fun c18 => ?_)
            · replace h := h.1 c18
              refine r_iload_n 3 dX12_sum_213 rfl rfl ?_
              refine Fr.fewer [2, 0] rfl ?_
              exact h
            · replace h := h.2 c18
              refine r_iload_n 4 dX12_sum_209 rfl rfl ?_
              refine r_goto (tgt := 214) dX12_sum_210 (by decide) ?_
              refine Fr.fewer [2, 0] rfl ?_
              exact h
          · replace h := h.2 c17
            refine r_iload_n 2 dX12_sum_198 rfl rfl ?_
            refine r_goto (tgt := 203) dX12_sum_199 (by decide) ?_
            refine r_istore dX12_sum_203 (by decide) rfl ?_
            refine r_iload_n 1 dX12_sum_205 rfl rfl ?_
            refine r_if_le (tgt := 213) dX12_sum_206 (by decide) (fun c19 => ?_) (fun c19 => ?_)
            · replace h := h.1 c19
              refine r_iload_n 3 dX12_sum_213 rfl rfl ?_
              refine Fr.fewer [2, 0] rfl ?_
              exact h
            · replace h := h.2 c19
              refine r_iload_n 4 dX12_sum_209 rfl rfl ?_
              refine r_goto (tgt := 214) dX12_sum_210 (by decide) ?_
              refine Fr.fewer [2, 0] rfl ?_
              exact h
        · replace h := h.2 c16
          refine r_aload_n 1 dX12_sum_188 rfl rfl ?_
          refine r_lconst0 dX12_sum_189 ?_
          refine r_invV (M := mX12_sum) (As := [(1, 0)]) (st := []) (X := v0) (mc := 0) (ms := 0) (fc := 0) (fs := 0) h ok_X12_whole cls12 im_X12_whole se_X12_whole ml_RX12_125 dX12_sum_190 rfl h1 h2 (Nat.le_of_ble_eq_true rfl) rfl ?_
          rintro r K1 H20 ⟨rfl, x21, rfl, h⟩ -
          show Fr mX12_sum (d + 1) 0 0 none 193 [(3, (0, x15)), (0, (2, v0)), (1, (0, v1)), (2, (0, v2))] [(0, x21)] _ H20 _
          exact r_iret dX12_sum_193 rfl ⟨rfl, _, rfl, h⟩
      · replace h := h.2 c13
        refine r_aload_n 0 dX12_sum_41 rfl rfl ?_
        refine r_iload_n 1 dX12_sum_42 rfl rfl ?_
        refine r_invV (M := mX12_sum) (As := [(0, v1)]) (st := []) (X := v0) (mc := 0) (ms := 0) (fc := 0) (fs := 0) h ok_X12_places cls12 im_X12_places se_X12_places ml_RX12_106 dX12_sum_43 rfl h1 h2 (Nat.le_of_ble_eq_true rfl) rfl ?_
        rintro r K1 H22 ⟨rfl, x23, rfl, h⟩ -
        show Fr mX12_sum (d + 1) 0 0 none 46 [(0, (2, v0)), (1, (0, v1)), (2, (0, v2))] [(0, x23)] _ H22 _
        refine r_aload_n 0 dX12_sum_46 rfl rfl ?_
        refine r_iload_n 2 dX12_sum_47 rfl rfl ?_
        refine r_invV (M := mX12_sum) (As := [(0, v2)]) (st := [(0, x23)]) (X := v0) (mc := 0) (ms := 0) (fc := 0) (fs := 0) h ok_X12_places cls12 im_X12_places se_X12_places ml_RX12_106 dX12_sum_48 rfl h1 h2 (Nat.le_of_ble_eq_true rfl) rfl ?_
        rintro r K1 H24 ⟨rfl, x25, rfl, h⟩ -
        show Fr mX12_sum (d + 1) 0 0 none 51 [(0, (2, v0)), (1, (0, v1)), (2, (0, v2))] [(0, x25), (0, x23)] _ H24 _
        refine r_maxi dX12_sum_51 ml_RX12_115 (Nat.le_of_ble_eq_true rfl) ?_
        refine r_iconst dX12_sum_54 (by decide) (by decide) ?_
        obtain ⟨h26, h⟩ := h
        refine r_iadd dX12_sum_55 h26 ?_
        refine r_istore_n dX12_sum_56 rfl (by decide) rfl ?_
        refine r_aload_n 1 dX12_sum_57 rfl rfl ?_
        refine r_iload_n 0 dX12_sum_58 rfl rfl ?_
        refine r_invV (M := mX12_sum) (As := [(0, ((max x23 x25) + 1))]) (st := []) (X := v0) (mc := 0) (ms := 0) (fc := 0) (fs := 0) h ok_X12_room cls12 im_X12_room se_X12_room ml_RX12_96 dX12_sum_59 rfl h1 h2 (Nat.le_of_ble_eq_true rfl) rfl ?_
        rintro r K1 H27 ⟨rfl, x28, rfl, h⟩ -
        show Fr mX12_sum (d + 1) 0 0 none 62 [(3, (0, ((max x23 x25) + 1))), (0, (2, v0)), (1, (0, v1)), (2, (0, v2))] [(0, x28)] _ H27 _
        refine r_istore dX12_sum_62 (by decide) rfl ?_
        refine r_iconst dX12_sum_64 (by decide) (by decide) ?_
        refine r_istore dX12_sum_65 (by decide) rfl ?_
        refine r_iconst dX12_sum_67 (by decide) (by decide) ?_
        refine r_istore dX12_sum_68 (by decide) rfl ?_
        refine Fr.fewer [4, 5, 6, 3, 2, 1, 0] rfl ?_
        exact h
    · replace h := h.2 c8
      refine r_aload_n 0 dX12_sum_22 rfl rfl ?_
      refine r_iload_n 1 dX12_sum_23 rfl rfl ?_
      refine r_invV (M := mX12_sum) (As := [(0, v1)]) (st := []) (X := v0) (mc := 0) (ms := 0) (fc := 0) (fs := 0) h ok_X12_copy cls12 im_X12_copy se_X12_copy ml_RX12_109 dX12_sum_24 rfl h1 h2 (Nat.le_of_ble_eq_true rfl) rfl ?_
      rintro r K1 H29 ⟨rfl, x30, rfl, h⟩ -
      show Fr mX12_sum (d + 1) 0 0 none 27 [(0, (2, v0)), (1, (0, v1)), (2, (0, v2))] [(0, x30)] _ H29 _
      exact r_iret dX12_sum_27 rfl ⟨rfl, _, rfl, h⟩
  · replace h := h.2 c5
    refine r_aload_n 0 dX12_sum_8 rfl rfl ?_
    refine r_iload_n 2 dX12_sum_9 rfl rfl ?_
    refine r_invV (M := mX12_sum) (As := [(0, v2)]) (st := []) (X := v0) (mc := 0) (ms := 0) (fc := 0) (fs := 0) h ok_X12_copy cls12 im_X12_copy se_X12_copy ml_RX12_109 dX12_sum_10 rfl h1 h2 (Nat.le_of_ble_eq_true rfl) rfl ?_
    rintro r K1 H31 ⟨rfl, x32, rfl, h⟩ -
    show Fr mX12_sum (d + 1) 0 0 none 13 [(0, (2, v0)), (1, (0, v1)), (2, (0, v2))] [(0, x32)] _ H31 _
    exact r_iret dX12_sum_13 rfl ⟨rfl, _, rfl, h⟩
set_option maxHeartbeats 4000000 in
set_option maxRecDepth 20000 in
theorem bX12_sum_214 {d : Nat} {K : Shp} {H : Mem} {q : Int → Mem → Prop} {v0 v4 s0 : Int} (h : ((0 : Int) ≤ v0) ∧ (K[(v0 : Int).toNat]? = some (12, 51)) ∧ Ci mX12_places d [(2, v0), (0, v4)] K H (fun x4 H3 => Ci mX12_room d [(2, v0), (0, x4)] K H3 (fun x6 H5 => FX12_sum_238 d K H5 q (v0) (v4) (s0) (x4) (x6) (0) (1)))) : FX12_sum_214 d K H q (v0) (v4) (s0) := by
  unfold FX12_sum_214
  refine r_istore dX12_sum_214 (by decide) rfl ?_
  refine r_aload_n 1 dX12_sum_216 rfl rfl ?_
  refine r_iload 2 dX12_sum_217 rfl ?_
  obtain ⟨h1, h⟩ := h
  obtain ⟨h2, h⟩ := h
  refine r_invV (M := mX12_sum) (As := [(0, v4)]) (st := []) (X := v0) (mc := 0) (ms := 0) (fc := 0) (fs := 0) h ok_X12_places cls12 im_X12_places se_X12_places ml_RX12_106 dX12_sum_219 rfl h1 h2 (Nat.le_of_ble_eq_true rfl) rfl ?_
  rintro r K1 H3 ⟨rfl, x4, rfl, h⟩ -
  show Fr mX12_sum (d + 1) 0 0 none 222 [(5, (0, s0)), (0, (2, v0)), (4, (0, v4))] [(0, x4)] _ H3 _
  refine r_istore dX12_sum_222 (by decide) rfl ?_
  refine r_aload_n 2 dX12_sum_224 rfl rfl ?_
  refine r_iload 0 dX12_sum_225 rfl ?_
  refine r_invV (M := mX12_sum) (As := [(0, x4)]) (st := []) (X := v0) (mc := 0) (ms := 0) (fc := 0) (fs := 0) h ok_X12_room cls12 im_X12_room se_X12_room ml_RX12_96 dX12_sum_227 rfl h1 h2 (Nat.le_of_ble_eq_true rfl) rfl ?_
  rintro r K1 H5 ⟨rfl, x6, rfl, h⟩ -
  show Fr mX12_sum (d + 1) 0 0 none 230 [(6, (0, x4)), (5, (0, s0)), (0, (2, v0)), (4, (0, v4))] [(0, x6)] _ H5 _
  refine r_istore dX12_sum_230 (by decide) rfl ?_
  refine r_iconst dX12_sum_232 (by decide) (by decide) ?_
  refine r_istore dX12_sum_233 (by decide) rfl ?_
  refine r_iconst dX12_sum_235 (by decide) (by decide) ?_
  refine r_istore dX12_sum_236 (by decide) rfl ?_
  refine Fr.fewer [5, 6, 4, 3, 2, 1, 0] rfl ?_
  exact h
set_option maxHeartbeats 4000000 in
set_option maxRecDepth 20000 in
theorem bX12_sum_70 {d : Nat} {K : Shp} {H : Mem} {q : Int → Mem → Prop} {v0 v1 v2 v3 v4 v5 v6 : Int} (h : ((¬ (v6 : Int) ≤ v3 → ((0 : Int) ≤ v0) ∧ (K[(v0 : Int).toNat]? = some (12, 51)) ∧ Ci mX12_sign d [(2, v0), (0, v1)] K H (fun x5 H4 => ((¬ (x5 : Int) < 0 → Ci mX12_done d [(2, v0), (0, v4), (0, v3), (0, 0)] K H4 (fun x8 H7 => q x8 H7)) ∧ ((x5 : Int) < 0 → Ci mX12_done d [(2, v0), (0, v4), (0, v3), (0, 1)] K H4 (fun x10 H9 => q x10 H9))))) ∧ ((v6 : Int) ≤ v3 → ((0 : Int) ≤ v0) ∧ (K[(v0 : Int).toNat]? = some (12, 51)) ∧ Ci mX12_places d [(2, v0), (0, v1)] K H (fun x14 H13 => ((¬ (v6 : Int) ≤ x14 → FX12_sum_101 d K H13 q (v0) (v1) (v2) (v3) (v4) (v6) (0) (v5)) ∧ ((v6 : Int) ≤ x14 → (inI (v1 + v6)) ∧ ((0 : Int) ≤ (H13 (v0 : Int).toNat 1)) ∧ ∃ n18 : Nat, (K[((H13 (v0 : Int).toNat 1) : Int).toNat]? = some (20, n18)) ∧ ((0 : Int) ≤ (v1 + v6)) ∧ (((v1 + v6) : Int) < n18) ∧ FX12_sum_101 d K H13 q (v0) (v1) (v2) (v3) (v4) (v6) ((H13 ((H13 (v0 : Int).toNat 1) : Int).toNat ((v1 + v6) : Int).toNat)) (v5))))))) : FX12_sum_70 d K H q (v0) (v1) (v2) (v3) (v4) (v5) (v6) := by
  unfold FX12_sum_70
  refine r_iload 6 dX12_sum_70 rfl ?_
  refine r_iload_n 3 dX12_sum_72 rfl rfl ?_
  refine r_icmp_gt (tgt := 156) dX12_sum_73 (by decide) (fun c1 => ?_) (fun c1 => ?_)
  · replace h := h.1 c1
    refine r_aload_n 0 dX12_sum_156 rfl rfl ?_
    refine r_iload 4 dX12_sum_157 rfl ?_
    refine r_iload_n 3 dX12_sum_159 rfl rfl ?_
    refine r_aload_n 0 dX12_sum_160 rfl rfl ?_
    refine r_iload_n 1 dX12_sum_161 rfl rfl ?_
    obtain ⟨h2, h⟩ := h
    obtain ⟨h3, h⟩ := h
    refine r_invV (M := mX12_sum) (As := [(0, v1)]) (st := [(0, v3), (0, v4), (2, v0)]) (X := v0) (mc := 0) (ms := 0) (fc := 0) (fs := 0) h ok_X12_sign cls12 im_X12_sign se_X12_sign ml_RX12_112 dX12_sum_162 rfl h2 h3 (Nat.le_of_ble_eq_true rfl) rfl ?_
    rintro r K1 H4 ⟨rfl, x5, rfl, h⟩ -
    show Fr mX12_sum (d + 1) 0 0 none 165 [(0, (2, v0)), (1, (0, v1)), (2, (0, v2)), (3, (0, v3)), (4, (0, v4)), (5, (0, v5)), (6, (0, v6))] [(0, x5), (0, v3), (0, v4), (2, v0)] _ H4 _
    refine r_if_ge (tgt := 172) dX12_sum_165 (by decide) (fun c6 => ?_) (fun c6 => ?_)
    · replace h := h.1 c6
      refine r_iconst dX12_sum_172 (by decide) (by decide) ?_
      refine r_invV (M := mX12_sum) (As := [(0, v4), (0, v3), (0, 0)]) (st := []) (X := v0) (mc := 0) (ms := 0) (fc := 0) (fs := 0) h ok_X12_done cls12 im_X12_done se_X12_done ml_RX12_102 dX12_sum_173 rfl h2 h3 (Nat.le_of_ble_eq_true rfl) rfl ?_
      rintro r K1 H7 ⟨rfl, x8, rfl, h⟩ -
      show Fr mX12_sum (d + 1) 0 0 none 176 [(0, (2, v0)), (1, (0, v1)), (2, (0, v2)), (3, (0, v3)), (4, (0, v4)), (5, (0, v5)), (6, (0, v6))] [(0, x8)] _ H7 _
      exact r_iret dX12_sum_176 rfl ⟨rfl, _, rfl, h⟩
    · replace h := h.2 c6
      refine r_iconst dX12_sum_168 (by decide) (by decide) ?_
      refine r_goto (tgt := 173) dX12_sum_169 (by decide) ?_
      refine r_invV (M := mX12_sum) (As := [(0, v4), (0, v3), (0, 1)]) (st := []) (X := v0) (mc := 0) (ms := 0) (fc := 0) (fs := 0) h ok_X12_done cls12 im_X12_done se_X12_done ml_RX12_102 dX12_sum_173 rfl h2 h3 (Nat.le_of_ble_eq_true rfl) rfl ?_
      rintro r K1 H9 ⟨rfl, x10, rfl, h⟩ -
      show Fr mX12_sum (d + 1) 0 0 none 176 [(0, (2, v0)), (1, (0, v1)), (2, (0, v2)), (3, (0, v3)), (4, (0, v4)), (5, (0, v5)), (6, (0, v6))] [(0, x10)] _ H9 _
      exact r_iret dX12_sum_176 rfl ⟨rfl, _, rfl, h⟩
  · replace h := h.2 c1
    refine r_iload 5 dX12_sum_76 rfl ?_
    refine r_iload 6 dX12_sum_78 rfl ?_
    refine r_aload_n 0 dX12_sum_80 rfl rfl ?_
    refine r_iload_n 1 dX12_sum_81 rfl rfl ?_
    obtain ⟨h11, h⟩ := h
    obtain ⟨h12, h⟩ := h
    refine r_invV (M := mX12_sum) (As := [(0, v1)]) (st := [(0, v6), (0, v5)]) (X := v0) (mc := 0) (ms := 0) (fc := 0) (fs := 0) h ok_X12_places cls12 im_X12_places se_X12_places ml_RX12_106 dX12_sum_82 rfl h11 h12 (Nat.le_of_ble_eq_true rfl) rfl ?_
    rintro r K1 H13 ⟨rfl, x14, rfl, h⟩ -
    show Fr mX12_sum (d + 1) 0 0 none 85 [(0, (2, v0)), (1, (0, v1)), (2, (0, v2)), (3, (0, v3)), (4, (0, v4)), (5, (0, v5)), (6, (0, v6))] [(0, x14), (0, v6), (0, v5)] _ H13 _
    refine r_icmp_gt (tgt := 100) dX12_sum_85 (by decide) (fun c15 => ?_) (fun c15 => ?_)
    · replace h := h.1 c15
      refine r_iconst dX12_sum_100 (by decide) (by decide) ?_
      refine Fr.fewer [0, 1, 2, 3, 4, 6] rfl ?_
      exact h
    · replace h := h.2 c15
      refine r_aload_n 0 dX12_sum_88 rfl rfl ?_
      refine r_getf cls12 1 dX12_sum_89 (by decide) fl_RX12_7 rfl h11 h12 ?_
      refine r_iload_n 1 dX12_sum_92 rfl rfl ?_
      refine r_iload 6 dX12_sum_93 rfl ?_
      obtain ⟨h16, h⟩ := h
      refine r_iadd dX12_sum_95 h16 ?_
      obtain ⟨h17, h⟩ := h
      obtain ⟨n18, h⟩ := h
      obtain ⟨h19, h⟩ := h
      obtain ⟨h20, h⟩ := h
      obtain ⟨h21, h⟩ := h
      refine r_iald n18 dX12_sum_96 h17 h19 h20 h21 ?_
      refine r_goto (tgt := 101) dX12_sum_97 (by decide) ?_
      refine Fr.fewer [0, 1, 2, 3, 4, 6] rfl ?_
      exact h
set_option maxHeartbeats 4000000 in
set_option maxRecDepth 20000 in
theorem bX12_sum_238 {d : Nat} {K : Shp} {H : Mem} {q : Int → Mem → Prop} {v0 v4 v5 v6 v7 v8 v9 : Int} (h : ((¬ (v9 : Int) ≤ v6 → ((0 : Int) ≤ v0) ∧ (K[(v0 : Int).toNat]? = some (12, 51)) ∧ Ci mX12_sign d [(2, v0), (0, v4)] K H (fun x5 H4 => ((¬ (x5 : Int) < 0 → Ci mX12_done d [(2, v0), (0, v7), (0, v6), (0, 0)] K H4 (fun x8 H7 => q x8 H7)) ∧ ((x5 : Int) < 0 → Ci mX12_done d [(2, v0), (0, v7), (0, v6), (0, 1)] K H4 (fun x10 H9 => q x10 H9))))) ∧ ((v9 : Int) ≤ v6 → ((0 : Int) ≤ v0) ∧ (K[(v0 : Int).toNat]? = some (12, 51)) ∧ (inI (v4 + v9)) ∧ ((0 : Int) ≤ (H (v0 : Int).toNat 1)) ∧ ∃ n15 : Nat, (K[((H (v0 : Int).toNat 1) : Int).toNat]? = some (20, n15)) ∧ ((0 : Int) ≤ (v4 + v9)) ∧ (((v4 + v9) : Int) < n15) ∧ (inI ((H ((H (v0 : Int).toNat 1) : Int).toNat ((v4 + v9) : Int).toNat) - v8)) ∧ Ci mX12_places d [(2, v0), (0, v5)] K H (fun x21 H20 => ((¬ (v9 : Int) ≤ x21 → (inI (((H ((H (v0 : Int).toNat 1) : Int).toNat ((v4 + v9) : Int).toNat) - v8) - 0)) ∧ ((¬ ((((H ((H (v0 : Int).toNat 1) : Int).toNat ((v4 + v9) : Int).toNat) - v8) - 0) : Int) < 0 → FX12_sum_296 d K H20 q (v0) (v4) (v5) (v6) (v7) (v9) ((((H ((H (v0 : Int).toNat 1) : Int).toNat ((v4 + v9) : Int).toNat) - v8) - 0)) (0)) ∧ (((((H ((H (v0 : Int).toNat 1) : Int).toNat ((v4 + v9) : Int).toNat) - v8) - 0) : Int) < 0 → FX12_sum_296 d K H20 q (v0) (v4) (v5) (v6) (v7) (v9) ((((H ((H (v0 : Int).toNat 1) : Int).toNat ((v4 + v9) : Int).toNat) - v8) - 0)) (1)))) ∧ ((v9 : Int) ≤ x21 → (inI (v5 + v9)) ∧ ((0 : Int) ≤ (H20 (v0 : Int).toNat 1)) ∧ ∃ n27 : Nat, (K[((H20 (v0 : Int).toNat 1) : Int).toNat]? = some (20, n27)) ∧ ((0 : Int) ≤ (v5 + v9)) ∧ (((v5 + v9) : Int) < n27) ∧ (inI (((H ((H (v0 : Int).toNat 1) : Int).toNat ((v4 + v9) : Int).toNat) - v8) - (H20 ((H20 (v0 : Int).toNat 1) : Int).toNat ((v5 + v9) : Int).toNat))) ∧ ((¬ ((((H ((H (v0 : Int).toNat 1) : Int).toNat ((v4 + v9) : Int).toNat) - v8) - (H20 ((H20 (v0 : Int).toNat 1) : Int).toNat ((v5 + v9) : Int).toNat)) : Int) < 0 → FX12_sum_296 d K H20 q (v0) (v4) (v5) (v6) (v7) (v9) ((((H ((H (v0 : Int).toNat 1) : Int).toNat ((v4 + v9) : Int).toNat) - v8) - (H20 ((H20 (v0 : Int).toNat 1) : Int).toNat ((v5 + v9) : Int).toNat))) (0)) ∧ (((((H ((H (v0 : Int).toNat 1) : Int).toNat ((v4 + v9) : Int).toNat) - v8) - (H20 ((H20 (v0 : Int).toNat 1) : Int).toNat ((v5 + v9) : Int).toNat)) : Int) < 0 → FX12_sum_296 d K H20 q (v0) (v4) (v5) (v6) (v7) (v9) ((((H ((H (v0 : Int).toNat 1) : Int).toNat ((v4 + v9) : Int).toNat) - v8) - (H20 ((H20 (v0 : Int).toNat 1) : Int).toNat ((v5 + v9) : Int).toNat))) (1))))))))) : FX12_sum_238 d K H q (v0) (v4) (v5) (v6) (v7) (v8) (v9) := by
  unfold FX12_sum_238
  refine r_iload 6 dX12_sum_238 rfl ?_
  refine r_iload 3 dX12_sum_240 rfl ?_
  refine r_icmp_gt (tgt := 319) dX12_sum_242 (by decide) (fun c1 => ?_) (fun c1 => ?_)
  · replace h := h.1 c1
    refine r_aload_n 0 dX12_sum_319 rfl rfl ?_
    refine r_iload 4 dX12_sum_320 rfl ?_
    refine r_iload 3 dX12_sum_322 rfl ?_
    refine r_aload_n 0 dX12_sum_324 rfl rfl ?_
    refine r_iload 1 dX12_sum_325 rfl ?_
    obtain ⟨h2, h⟩ := h
    obtain ⟨h3, h⟩ := h
    refine r_invV (M := mX12_sum) (As := [(0, v4)]) (st := [(0, v6), (0, v7), (2, v0)]) (X := v0) (mc := 0) (ms := 0) (fc := 0) (fs := 0) h ok_X12_sign cls12 im_X12_sign se_X12_sign ml_RX12_112 dX12_sum_327 rfl h2 h3 (Nat.le_of_ble_eq_true rfl) rfl ?_
    rintro r K1 H4 ⟨rfl, x5, rfl, h⟩ -
    show Fr mX12_sum (d + 1) 0 0 none 330 [(0, (2, v0)), (4, (0, v4)), (5, (0, v5)), (6, (0, v6)), (7, (0, v7)), (8, (0, v8)), (9, (0, v9))] [(0, x5), (0, v6), (0, v7), (2, v0)] _ H4 _
    refine r_if_ge (tgt := 337) dX12_sum_330 (by decide) (fun c6 => ?_) (fun c6 => ?_)
    · replace h := h.1 c6
      refine r_iconst dX12_sum_337 (by decide) (by decide) ?_
      refine r_invV (M := mX12_sum) (As := [(0, v7), (0, v6), (0, 0)]) (st := []) (X := v0) (mc := 0) (ms := 0) (fc := 0) (fs := 0) h ok_X12_done cls12 im_X12_done se_X12_done ml_RX12_102 dX12_sum_338 rfl h2 h3 (Nat.le_of_ble_eq_true rfl) rfl ?_
      rintro r K1 H7 ⟨rfl, x8, rfl, h⟩ -
      show Fr mX12_sum (d + 1) 0 0 none 341 [(0, (2, v0)), (4, (0, v4)), (5, (0, v5)), (6, (0, v6)), (7, (0, v7)), (8, (0, v8)), (9, (0, v9))] [(0, x8)] _ H7 _
      exact r_iret dX12_sum_341 rfl ⟨rfl, _, rfl, h⟩
    · replace h := h.2 c6
      refine r_iconst dX12_sum_333 (by decide) (by decide) ?_
      refine r_goto (tgt := 338) dX12_sum_334 (by decide) ?_
      refine r_invV (M := mX12_sum) (As := [(0, v7), (0, v6), (0, 1)]) (st := []) (X := v0) (mc := 0) (ms := 0) (fc := 0) (fs := 0) h ok_X12_done cls12 im_X12_done se_X12_done ml_RX12_102 dX12_sum_338 rfl h2 h3 (Nat.le_of_ble_eq_true rfl) rfl ?_
      rintro r K1 H9 ⟨rfl, x10, rfl, h⟩ -
      show Fr mX12_sum (d + 1) 0 0 none 341 [(0, (2, v0)), (4, (0, v4)), (5, (0, v5)), (6, (0, v6)), (7, (0, v7)), (8, (0, v8)), (9, (0, v9))] [(0, x10)] _ H9 _
      exact r_iret dX12_sum_341 rfl ⟨rfl, _, rfl, h⟩
  · replace h := h.2 c1
    refine r_aload_n 0 dX12_sum_245 rfl rfl ?_
    obtain ⟨h11, h⟩ := h
    obtain ⟨h12, h⟩ := h
    refine r_getf cls12 1 dX12_sum_246 (by decide) fl_RX12_7 rfl h11 h12 ?_
    refine r_iload 1 dX12_sum_249 rfl ?_
    refine r_iload 6 dX12_sum_251 rfl ?_
    obtain ⟨h13, h⟩ := h
    refine r_iadd dX12_sum_253 h13 ?_
    obtain ⟨h14, h⟩ := h
    obtain ⟨n15, h⟩ := h
    obtain ⟨h16, h⟩ := h
    obtain ⟨h17, h⟩ := h
    obtain ⟨h18, h⟩ := h
    refine r_iald n15 dX12_sum_254 h14 h16 h17 h18 ?_
    refine r_iload 5 dX12_sum_255 rfl ?_
    obtain ⟨h19, h⟩ := h
    refine r_isub dX12_sum_257 h19 ?_
    refine r_iload 6 dX12_sum_258 rfl ?_
    refine r_aload_n 0 dX12_sum_260 rfl rfl ?_
    refine r_iload 2 dX12_sum_261 rfl ?_
    refine r_invV (M := mX12_sum) (As := [(0, v5)]) (st := [(0, v9), (0, ((H ((H (v0 : Int).toNat 1) : Int).toNat ((v4 + v9) : Int).toNat) - v8))]) (X := v0) (mc := 0) (ms := 0) (fc := 0) (fs := 0) h ok_X12_places cls12 im_X12_places se_X12_places ml_RX12_106 dX12_sum_263 rfl h11 h12 (Nat.le_of_ble_eq_true rfl) rfl ?_
    rintro r K1 H20 ⟨rfl, x21, rfl, h⟩ -
    show Fr mX12_sum (d + 1) 0 0 none 266 [(0, (2, v0)), (4, (0, v4)), (5, (0, v5)), (6, (0, v6)), (7, (0, v7)), (8, (0, v8)), (9, (0, v9))] [(0, x21), (0, v9), (0, ((H ((H (v0 : Int).toNat 1) : Int).toNat ((v4 + v9) : Int).toNat) - v8))] _ H20 _
    refine r_icmp_gt (tgt := 282) dX12_sum_266 (by decide) (fun c22 => ?_) (fun c22 => ?_)
    · replace h := h.1 c22
      refine r_iconst dX12_sum_282 (by decide) (by decide) ?_
      obtain ⟨h23, h⟩ := h
      refine r_isub dX12_sum_283 h23 ?_
      refine r_istore dX12_sum_284 (by decide) rfl ?_
      refine r_iload 0 dX12_sum_286 rfl ?_
      refine r_if_ge (tgt := 295) dX12_sum_288 (by decide) (fun c24 => ?_) (fun c24 => ?_)
      · replace h := h.1 c24
        refine r_iconst dX12_sum_295 (by decide) (by decide) ?_
        refine Fr.fewer [1, 2, 3, 4, 5, 7, 0] rfl ?_
        exact h
      · replace h := h.2 c24
        refine r_iconst dX12_sum_291 (by decide) (by decide) ?_
        refine r_goto (tgt := 296) dX12_sum_292 (by decide) ?_
        refine Fr.fewer [1, 2, 3, 4, 5, 7, 0] rfl ?_
        exact h
    · replace h := h.2 c22
      refine r_aload_n 0 dX12_sum_269 rfl rfl ?_
      refine r_getf cls12 1 dX12_sum_270 (by decide) fl_RX12_7 rfl h11 h12 ?_
      refine r_iload 2 dX12_sum_273 rfl ?_
      refine r_iload 6 dX12_sum_275 rfl ?_
      obtain ⟨h25, h⟩ := h
      refine r_iadd dX12_sum_277 h25 ?_
      obtain ⟨h26, h⟩ := h
      obtain ⟨n27, h⟩ := h
      obtain ⟨h28, h⟩ := h
      obtain ⟨h29, h⟩ := h
      obtain ⟨h30, h⟩ := h
      refine r_iald n27 dX12_sum_278 h26 h28 h29 h30 ?_
      refine r_goto (tgt := 283) dX12_sum_279 (by decide) ?_
      obtain ⟨h31, h⟩ := h
      refine r_isub dX12_sum_283 h31 ?_
      refine r_istore dX12_sum_284 (by decide) rfl ?_
      refine r_iload 0 dX12_sum_286 rfl ?_
      refine r_if_ge (tgt := 295) dX12_sum_288 (by decide) (fun c32 => ?_) (fun c32 => ?_)
      · replace h := h.1 c32
        refine r_iconst dX12_sum_295 (by decide) (by decide) ?_
        refine Fr.fewer [1, 2, 3, 4, 5, 7, 0] rfl ?_
        exact h
      · replace h := h.2 c32
        refine r_iconst dX12_sum_291 (by decide) (by decide) ?_
        refine r_goto (tgt := 296) dX12_sum_292 (by decide) ?_
        refine Fr.fewer [1, 2, 3, 4, 5, 7, 0] rfl ?_
        exact h
set_option maxHeartbeats 4000000 in
set_option maxRecDepth 20000 in
theorem bX12_sum_101 {d : Nat} {K : Shp} {H : Mem} {q : Int → Mem → Prop} {v0 v1 v2 v3 v4 v6 s0 s1 : Int} (h : (inI (s1 + s0)) ∧ ((0 : Int) ≤ v0) ∧ (K[(v0 : Int).toNat]? = some (12, 51)) ∧ Ci mX12_places d [(2, v0), (0, v2)] K H (fun x5 H4 => ((¬ (v6 : Int) ≤ x5 → FX12_sum_125 d K H4 q (v0) (v1) (v2) (v3) (v4) (v6) (0) ((s1 + s0))) ∧ ((v6 : Int) ≤ x5 → (inI (v2 + v6)) ∧ ((0 : Int) ≤ (H4 (v0 : Int).toNat 1)) ∧ ∃ n9 : Nat, (K[((H4 (v0 : Int).toNat 1) : Int).toNat]? = some (20, n9)) ∧ ((0 : Int) ≤ (v2 + v6)) ∧ (((v2 + v6) : Int) < n9) ∧ FX12_sum_125 d K H4 q (v0) (v1) (v2) (v3) (v4) (v6) ((H4 ((H4 (v0 : Int).toNat 1) : Int).toNat ((v2 + v6) : Int).toNat)) ((s1 + s0)))))) : FX12_sum_101 d K H q (v0) (v1) (v2) (v3) (v4) (v6) (s0) (s1) := by
  unfold FX12_sum_101
  obtain ⟨h1, h⟩ := h
  refine r_iadd dX12_sum_101 h1 ?_
  refine r_iload 5 dX12_sum_102 rfl ?_
  refine r_aload_n 0 dX12_sum_104 rfl rfl ?_
  refine r_iload_n 2 dX12_sum_105 rfl rfl ?_
  obtain ⟨h2, h⟩ := h
  obtain ⟨h3, h⟩ := h
  refine r_invV (M := mX12_sum) (As := [(0, v2)]) (st := [(0, v6), (0, (s1 + s0))]) (X := v0) (mc := 0) (ms := 0) (fc := 0) (fs := 0) h ok_X12_places cls12 im_X12_places se_X12_places ml_RX12_106 dX12_sum_106 rfl h2 h3 (Nat.le_of_ble_eq_true rfl) rfl ?_
  rintro r K1 H4 ⟨rfl, x5, rfl, h⟩ -
  show Fr mX12_sum (d + 1) 0 0 none 109 [(0, (2, v0)), (1, (0, v1)), (2, (0, v2)), (3, (0, v3)), (4, (0, v4)), (6, (0, v6))] [(0, x5), (0, v6), (0, (s1 + s0))] _ H4 _
  refine r_icmp_gt (tgt := 124) dX12_sum_109 (by decide) (fun c6 => ?_) (fun c6 => ?_)
  · replace h := h.1 c6
    refine r_iconst dX12_sum_124 (by decide) (by decide) ?_
    refine Fr.fewer [0, 1, 2, 3, 4, 5] rfl ?_
    exact h
  · replace h := h.2 c6
    refine r_aload_n 0 dX12_sum_112 rfl rfl ?_
    refine r_getf cls12 1 dX12_sum_113 (by decide) fl_RX12_7 rfl h2 h3 ?_
    refine r_iload_n 2 dX12_sum_116 rfl rfl ?_
    refine r_iload 5 dX12_sum_117 rfl ?_
    obtain ⟨h7, h⟩ := h
    refine r_iadd dX12_sum_119 h7 ?_
    obtain ⟨h8, h⟩ := h
    obtain ⟨n9, h⟩ := h
    obtain ⟨h10, h⟩ := h
    obtain ⟨h11, h⟩ := h
    obtain ⟨h12, h⟩ := h
    refine r_iald n9 dX12_sum_120 h8 h10 h11 h12 ?_
    refine r_goto (tgt := 125) dX12_sum_121 (by decide) ?_
    refine Fr.fewer [0, 1, 2, 3, 4, 5] rfl ?_
    exact h
set_option maxHeartbeats 4000000 in
set_option maxRecDepth 20000 in
theorem bX12_sum_296 {d : Nat} {K : Shp} {H : Mem} {q : Int → Mem → Prop} {v0 v4 v5 v6 v7 v9 v10 s0 : Int} (h : ((0 : Int) ≤ v0) ∧ (K[(v0 : Int).toNat]? = some (12, 51)) ∧ (inI (v7 + v9)) ∧ ((0 : Int) ≤ (H (v0 : Int).toNat 1)) ∧ ∃ n5 : Nat, (K[((H (v0 : Int).toNat 1) : Int).toNat]? = some (20, n5)) ∧ ((0 : Int) ≤ (v7 + v9)) ∧ (((v7 + v9) : Int) < n5) ∧ ∀ H9 : Mem, H9 = upA H ((H (v0 : Int).toNat 1) : Int).toNat (up1 (H ((H (v0 : Int).toNat 1) : Int).toNat) ((v7 + v9) : Int).toNat (v10 % 1073741824)) → (inI (v9 + 1)) ∧ FX12_sum_238 d K H9 q (v0) (v4) (v5) (v6) (v7) (s0) ((v9 + 1))) : FX12_sum_296 d K H q (v0) (v4) (v5) (v6) (v7) (v9) (v10) (s0) := by
  unfold FX12_sum_296
  refine r_istore dX12_sum_296 (by decide) rfl ?_
  refine r_aload_n 1 dX12_sum_298 rfl rfl ?_
  obtain ⟨h1, h⟩ := h
  obtain ⟨h2, h⟩ := h
  refine r_getf cls12 1 dX12_sum_299 (by decide) fl_RX12_7 rfl h1 h2 ?_
  refine r_iload 5 dX12_sum_302 rfl ?_
  refine r_iload 6 dX12_sum_304 rfl ?_
  obtain ⟨h3, h⟩ := h
  refine r_iadd dX12_sum_306 h3 ?_
  refine r_iload 7 dX12_sum_307 rfl ?_
  refine r_ldc (x := 1073741823) dX12_sum_309 kc_RX12_121 (by decide) (by decide) ?_
  refine r_iand30 dX12_sum_311 ?_
  obtain ⟨h4, h⟩ := h
  obtain ⟨n5, h⟩ := h
  obtain ⟨h6, h⟩ := h
  obtain ⟨h7, h⟩ := h
  obtain ⟨h8, h⟩ := h
  refine r_iast n5 dX12_sum_312 h4 h6 h7 h8 ?_
  replace h := h _ rfl
  generalize upA H ((H (v0 : Int).toNat 1) : Int).toNat (up1 (H ((H (v0 : Int).toNat 1) : Int).toNat) ((v7 + v9) : Int).toNat (v10 % 1073741824)) = H9 at h ⊢
  obtain ⟨h10, h⟩ := h
  refine r_iinc 6 dX12_sum_313 (by decide) rfl h10 rfl ?_
  refine r_goto (tgt := 238) dX12_sum_316 (by decide) ?_
  refine Fr.fewer [2, 3, 4, 5, 6, 1, 0] rfl ?_
  exact h
set_option maxHeartbeats 4000000 in
set_option maxRecDepth 20000 in
theorem bX12_sum_125 {d : Nat} {K : Shp} {H : Mem} {q : Int → Mem → Prop} {v0 v1 v2 v3 v4 v6 s0 s1 : Int} (h : (inI (s1 + s0)) ∧ ((0 : Int) ≤ v0) ∧ (K[(v0 : Int).toNat]? = some (12, 51)) ∧ (inI (v4 + v6)) ∧ ((0 : Int) ≤ (H (v0 : Int).toNat 1)) ∧ ∃ n6 : Nat, (K[((H (v0 : Int).toNat 1) : Int).toNat]? = some (20, n6)) ∧ ((0 : Int) ≤ (v4 + v6)) ∧ (((v4 + v6) : Int) < n6) ∧ ∀ H10 : Mem, H10 = upA H ((H (v0 : Int).toNat 1) : Int).toNat (up1 (H ((H (v0 : Int).toNat 1) : Int).toNat) ((v4 + v6) : Int).toNat ((s1 + s0) % 1073741824)) → ((0 : Int) ≤ (s1 + s0)) ∧ (inI (v6 + 1)) ∧ FX12_sum_70 d K H10 q (v0) (v1) (v2) (v3) (v4) (((s1 + s0) / 1073741824)) ((v6 + 1))) : FX12_sum_125 d K H q (v0) (v1) (v2) (v3) (v4) (v6) (s0) (s1) := by
  unfold FX12_sum_125
  obtain ⟨h1, h⟩ := h
  refine r_iadd dX12_sum_125 h1 ?_
  refine r_istore dX12_sum_126 (by decide) rfl ?_
  refine r_aload_n 1 dX12_sum_128 rfl rfl ?_
  obtain ⟨h2, h⟩ := h
  obtain ⟨h3, h⟩ := h
  refine r_getf cls12 1 dX12_sum_129 (by decide) fl_RX12_7 rfl h2 h3 ?_
  refine r_iload 5 dX12_sum_132 rfl ?_
  refine r_iload 6 dX12_sum_134 rfl ?_
  obtain ⟨h4, h⟩ := h
  refine r_iadd dX12_sum_136 h4 ?_
  refine r_iload 0 dX12_sum_137 rfl ?_
  refine r_ldc (x := 1073741823) dX12_sum_139 kc_RX12_121 (by decide) (by decide) ?_
  refine r_iand30 dX12_sum_141 ?_
  obtain ⟨h5, h⟩ := h
  obtain ⟨n6, h⟩ := h
  obtain ⟨h7, h⟩ := h
  obtain ⟨h8, h⟩ := h
  obtain ⟨h9, h⟩ := h
  refine r_iast n6 dX12_sum_142 h5 h7 h8 h9 ?_
  replace h := h _ rfl
  generalize upA H ((H (v0 : Int).toNat 1) : Int).toNat (up1 (H ((H (v0 : Int).toNat 1) : Int).toNat) ((v4 + v6) : Int).toNat ((s1 + s0) % 1073741824)) = H10 at h ⊢
  refine r_iload 0 dX12_sum_143 rfl ?_
  refine r_bipush dX12_sum_145 (by decide) (by decide) ?_
  obtain ⟨h11, h⟩ := h
  refine r_iushr30 dX12_sum_147 h11 ?_
  refine r_istore dX12_sum_148 (by decide) rfl ?_
  obtain ⟨h12, h⟩ := h
  refine r_iinc 7 dX12_sum_150 (by decide) rfl h12 rfl ?_
  refine r_goto (tgt := 70) dX12_sum_153 (by decide) ?_
  refine Fr.fewer [3, 4, 5, 6, 7, 1, 0] rfl ?_
  exact h
set_option maxHeartbeats 4000000 in
set_option maxRecDepth 20000 in
theorem eX12_sum {d : Nat} {K : Shp} {H : Mem} {q : Int → Mem → Prop} {v0 v1 v2 : Int} (h : inI v1 → inI v2 → Rng K H → FX12_sum_0 d K H q v0 v1 v2) : Ci mX12_sum (d + 1) [(2, v0), (0, v1), (0, v2)] K H q := Call.of rfl (Nat.le_of_ble_eq_true rfl) (fun o r => h (o (0, v1) (by simp)) (o (0, v2) (by simp)) r)
def FX12_less_0 (d : Nat) (K : Shp) (H : Mem) (q : Int → Mem → Prop) (v0 : Int) (v1 : Int) (v2 : Int) : Prop := Fr mX12_less (d + 1) 0 0 none 0 [(0, (2, v0)), (1, (0, v1)), (2, (0, v2))] [] K H (qi K q)
set_option maxHeartbeats 4000000 in
set_option maxRecDepth 20000 in
theorem bX12_less_0 {d : Nat} {K : Shp} {H : Mem} {q : Int → Mem → Prop} {v0 v1 v2 : Int} (h : ((0 : Int) ≤ v0) ∧ (K[(v0 : Int).toNat]? = some (12, 51)) ∧ Ci mX12_turned d [(2, v0), (0, v2)] K H (fun x4 H3 => Ci mX12_sum d [(2, v0), (0, v1), (0, x4)] K H3 (fun x6 H5 => q x6 H5))) : FX12_less_0 d K H q (v0) (v1) (v2) := by
  unfold FX12_less_0
  refine r_aload_n 0 dX12_less_0 rfl rfl ?_
  refine r_iload_n 1 dX12_less_1 rfl rfl ?_
  refine r_aload_n 0 dX12_less_2 rfl rfl ?_
  refine r_iload_n 2 dX12_less_3 rfl rfl ?_
  obtain ⟨h1, h⟩ := h
  obtain ⟨h2, h⟩ := h
  refine r_invV (M := mX12_less) (As := [(0, v2)]) (st := [(0, v1), (2, v0)]) (X := v0) (mc := 0) (ms := 0) (fc := 0) (fs := 0) h ok_X12_turned cls12 im_X12_turned se_X12_turned ml_RX12_129 dX12_less_4 rfl h1 h2 (Nat.le_of_ble_eq_true rfl) rfl ?_
  rintro r K1 H3 ⟨rfl, x4, rfl, h⟩ -
  show Fr mX12_less (d + 1) 0 0 none 7 [(0, (2, v0)), (1, (0, v1)), (2, (0, v2))] [(0, x4), (0, v1), (2, v0)] _ H3 _
  refine r_invV (M := mX12_less) (As := [(0, v1), (0, x4)]) (st := []) (X := v0) (mc := 0) (ms := 0) (fc := 0) (fs := 0) h ok_X12_sum cls12 im_X12_sum se_X12_sum ml_RX12_132 dX12_less_7 rfl h1 h2 (Nat.le_of_ble_eq_true rfl) rfl ?_
  rintro r K1 H5 ⟨rfl, x6, rfl, h⟩ -
  show Fr mX12_less (d + 1) 0 0 none 10 [(0, (2, v0)), (1, (0, v1)), (2, (0, v2))] [(0, x6)] _ H5 _
  exact r_iret dX12_less_10 rfl ⟨rfl, _, rfl, h⟩
set_option maxHeartbeats 4000000 in
set_option maxRecDepth 20000 in
theorem eX12_less {d : Nat} {K : Shp} {H : Mem} {q : Int → Mem → Prop} {v0 v1 v2 : Int} (h : inI v1 → inI v2 → Rng K H → FX12_less_0 d K H q v0 v1 v2) : Ci mX12_less (d + 1) [(2, v0), (0, v1), (0, v2)] K H q := Call.of rfl (Nat.le_of_ble_eq_true rfl) (fun o r => h (o (0, v1) (by simp)) (o (0, v2) (by simp)) r)
def FX12_product_0 (d : Nat) (K : Shp) (H : Mem) (q : Int → Mem → Prop) (v0 : Int) (v1 : Int) (v2 : Int) : Prop := Fr mX12_product (d + 1) 0 0 none 0 [(0, (2, v0)), (1, (0, v1)), (2, (0, v2))] [] K H (qi K q)
def FX12_product_48 (d : Nat) (K : Shp) (H : Mem) (q : Int → Mem → Prop) (v0 : Int) (v1 : Int) (v2 : Int) (v3 : Int) (v4 : Int) (v5 : Int) (v6 : Int) : Prop := Fr mX12_product (d + 1) 0 0 none 48 [(0, (2, v0)), (1, (0, v1)), (2, (0, v2)), (3, (0, v3)), (4, (0, v4)), (5, (0, v5)), (6, (0, v6))] [] K H (qi K q)
def FX12_product_77 (d : Nat) (K : Shp) (H : Mem) (q : Int → Mem → Prop) (v0 : Int) (v1 : Int) (v2 : Int) (v3 : Int) (v4 : Int) (v5 : Int) (v6 : Int) : Prop := Fr mX12_product (d + 1) 0 0 none 77 [(0, (2, v0)), (1, (0, v1)), (2, (0, v2)), (3, (0, v3)), (4, (0, v4)), (5, (0, v5)), (6, (0, v6))] [] K H (qi K q)
def FX12_product_101 (d : Nat) (K : Shp) (H : Mem) (q : Int → Mem → Prop) (v0 : Int) (v1 : Int) (v2 : Int) (v3 : Int) (v4 : Int) (v5 : Int) (v6 : Int) (v7 : Int) (v9 : Int) (v11 : Int) : Prop := Fr mX12_product (d + 1) 0 0 none 101 [(0, (2, v0)), (1, (0, v1)), (2, (0, v2)), (3, (0, v3)), (4, (0, v4)), (5, (0, v5)), (6, (0, v6)), (7, (1, v7)), (9, (1, v9)), (11, (0, v11))] [] K H (qi K q)
set_option maxHeartbeats 4000000 in
set_option maxRecDepth 20000 in
theorem bX12_product_0 {d : Nat} {K : Shp} {H : Mem} {q : Int → Mem → Prop} {v0 v1 v2 : Int} (h : ((0 : Int) ≤ v0) ∧ (K[(v0 : Int).toNat]? = some (12, 51)) ∧ Ci mX12_sign d [(2, v0), (0, v1)] K H (fun x4 H3 => (((x4 : Int) = 0 → Ci mX12_whole d [(2, v0), (1, 0)] K H3 (fun x7 H6 => q x7 H6)) ∧ (¬ (x4 : Int) = 0 → Ci mX12_sign d [(2, v0), (0, v2)] K H3 (fun x9 H8 => ((¬ (x9 : Int) = 0 → Ci mX12_places d [(2, v0), (0, v1)] K H8 (fun x12 H11 => Ci mX12_places d [(2, v0), (0, v2)] K H11 (fun x14 H13 => (inI (x12 + x14)) ∧ Ci mX12_room d [(2, v0), (0, (x12 + x14))] K H13 (fun x17 H16 => FX12_product_48 d K H16 q (v0) (v1) (v2) (x12) (x14) (x17) (1))))) ∧ ((x9 : Int) = 0 → Ci mX12_whole d [(2, v0), (1, 0)] K H8 (fun x19 H18 => q x19 H18)))))))) : FX12_product_0 d K H q (v0) (v1) (v2) := by
  unfold FX12_product_0
  refine r_aload_n 0 dX12_product_0 rfl rfl ?_
  refine r_iload_n 1 dX12_product_1 rfl rfl ?_
  obtain ⟨h1, h⟩ := h
  obtain ⟨h2, h⟩ := h
  refine r_invV (M := mX12_product) (As := [(0, v1)]) (st := []) (X := v0) (mc := 0) (ms := 0) (fc := 0) (fs := 0) h ok_X12_sign cls12 im_X12_sign se_X12_sign ml_RX12_112 dX12_product_2 rfl h1 h2 (Nat.le_of_ble_eq_true rfl) rfl ?_
  rintro r K1 H3 ⟨rfl, x4, rfl, h⟩ -
  show Fr mX12_product (d + 1) 0 0 none 5 [(0, (2, v0)), (1, (0, v1)), (2, (0, v2))] [(0, x4)] _ H3 _
  refine r_if_eq (tgt := 16) dX12_product_5 (by decide) (fun c5 => ?_) (fun c5 => ?_)
  · replace h := h.1 c5
    refine r_aload_n 0 dX12_product_16 rfl rfl ?_
    refine r_lconst0 dX12_product_17 ?_
    refine r_invV (M := mX12_product) (As := [(1, 0)]) (st := []) (X := v0) (mc := 0) (ms := 0) (fc := 0) (fs := 0) h ok_X12_whole cls12 im_X12_whole se_X12_whole ml_RX12_125 dX12_product_18 rfl h1 h2 (Nat.le_of_ble_eq_true rfl) rfl ?_
    rintro r K1 H6 ⟨rfl, x7, rfl, h⟩ -
    show Fr mX12_product (d + 1) 0 0 none 21 [(0, (2, v0)), (1, (0, v1)), (2, (0, v2))] [(0, x7)] _ H6 _
    exact r_iret dX12_product_21 rfl ⟨rfl, _, rfl, h⟩
  · replace h := h.2 c5
    refine r_aload_n 0 dX12_product_8 rfl rfl ?_
    refine r_iload_n 2 dX12_product_9 rfl rfl ?_
    refine r_invV (M := mX12_product) (As := [(0, v2)]) (st := []) (X := v0) (mc := 0) (ms := 0) (fc := 0) (fs := 0) h ok_X12_sign cls12 im_X12_sign se_X12_sign ml_RX12_112 dX12_product_10 rfl h1 h2 (Nat.le_of_ble_eq_true rfl) rfl ?_
    rintro r K1 H8 ⟨rfl, x9, rfl, h⟩ -
    show Fr mX12_product (d + 1) 0 0 none 13 [(0, (2, v0)), (1, (0, v1)), (2, (0, v2))] [(0, x9)] _ H8 _
    refine r_if_ne (tgt := 22) dX12_product_13 (by decide) (fun c10 => ?_) (fun c10 => ?_)
    · replace h := h.1 c10
      refine r_aload_n 0 dX12_product_22 rfl rfl ?_
      refine r_iload_n 1 dX12_product_23 rfl rfl ?_
      refine r_invV (M := mX12_product) (As := [(0, v1)]) (st := []) (X := v0) (mc := 0) (ms := 0) (fc := 0) (fs := 0) h ok_X12_places cls12 im_X12_places se_X12_places ml_RX12_106 dX12_product_24 rfl h1 h2 (Nat.le_of_ble_eq_true rfl) rfl ?_
      rintro r K1 H11 ⟨rfl, x12, rfl, h⟩ -
      show Fr mX12_product (d + 1) 0 0 none 27 [(0, (2, v0)), (1, (0, v1)), (2, (0, v2))] [(0, x12)] _ H11 _
      refine r_istore_n dX12_product_27 rfl (by decide) rfl ?_
      refine r_aload_n 1 dX12_product_28 rfl rfl ?_
      refine r_iload_n 3 dX12_product_29 rfl rfl ?_
      refine r_invV (M := mX12_product) (As := [(0, v2)]) (st := []) (X := v0) (mc := 0) (ms := 0) (fc := 0) (fs := 0) h ok_X12_places cls12 im_X12_places se_X12_places ml_RX12_106 dX12_product_30 rfl h1 h2 (Nat.le_of_ble_eq_true rfl) rfl ?_
      rintro r K1 H13 ⟨rfl, x14, rfl, h⟩ -
      show Fr mX12_product (d + 1) 0 0 none 33 [(3, (0, x12)), (0, (2, v0)), (1, (0, v1)), (2, (0, v2))] [(0, x14)] _ H13 _
      refine r_istore dX12_product_33 (by decide) rfl ?_
      refine r_aload_n 2 dX12_product_35 rfl rfl ?_
      refine r_iload_n 1 dX12_product_36 rfl rfl ?_
      refine r_iload 0 dX12_product_37 rfl ?_
      obtain ⟨h15, h⟩ := h
      refine r_iadd dX12_product_39 h15 ?_
      refine r_invV (M := mX12_product) (As := [(0, (x12 + x14))]) (st := []) (X := v0) (mc := 0) (ms := 0) (fc := 0) (fs := 0) h ok_X12_room cls12 im_X12_room se_X12_room ml_RX12_96 dX12_product_40 rfl h1 h2 (Nat.le_of_ble_eq_true rfl) rfl ?_
      rintro r K1 H16 ⟨rfl, x17, rfl, h⟩ -
      show Fr mX12_product (d + 1) 0 0 none 43 [(4, (0, x14)), (3, (0, x12)), (0, (2, v0)), (1, (0, v1)), (2, (0, v2))] [(0, x17)] _ H16 _
      refine r_istore dX12_product_43 (by decide) rfl ?_
      refine r_iconst dX12_product_45 (by decide) (by decide) ?_
      refine r_istore dX12_product_46 (by decide) rfl ?_
      refine Fr.fewer [4, 5, 6, 3, 2, 1, 0] rfl ?_
      exact h
    · replace h := h.2 c10
      refine r_aload_n 0 dX12_product_16 rfl rfl ?_
      refine r_lconst0 dX12_product_17 ?_
      refine r_invV (M := mX12_product) (As := [(1, 0)]) (st := []) (X := v0) (mc := 0) (ms := 0) (fc := 0) (fs := 0) h ok_X12_whole cls12 im_X12_whole se_X12_whole ml_RX12_125 dX12_product_18 rfl h1 h2 (Nat.le_of_ble_eq_true rfl) rfl ?_
      rintro r K1 H18 ⟨rfl, x19, rfl, h⟩ -
      show Fr mX12_product (d + 1) 0 0 none 21 [(0, (2, v0)), (1, (0, v1)), (2, (0, v2))] [(0, x19)] _ H18 _
      exact r_iret dX12_product_21 rfl ⟨rfl, _, rfl, h⟩
set_option maxHeartbeats 4000000 in
set_option maxRecDepth 20000 in
theorem bX12_product_48 {d : Nat} {K : Shp} {H : Mem} {q : Int → Mem → Prop} {v0 v1 v2 v3 v4 v5 v6 : Int} (h : (inI (v3 + v4)) ∧ ((¬ (v6 : Int) ≤ (v3 + v4) → FX12_product_77 d K H q (v0) (v1) (v2) (v3) (v4) (v5) (1)) ∧ ((v6 : Int) ≤ (v3 + v4) → ((0 : Int) ≤ v0) ∧ (K[(v0 : Int).toNat]? = some (12, 51)) ∧ (inI (v5 + v6)) ∧ ((0 : Int) ≤ (H (v0 : Int).toNat 1)) ∧ ∃ n7 : Nat, (K[((H (v0 : Int).toNat 1) : Int).toNat]? = some (20, n7)) ∧ ((0 : Int) ≤ (v5 + v6)) ∧ (((v5 + v6) : Int) < n7) ∧ ∀ H11 : Mem, H11 = upA H ((H (v0 : Int).toNat 1) : Int).toNat (up1 (H ((H (v0 : Int).toNat 1) : Int).toNat) ((v5 + v6) : Int).toNat 0) → (inI (v6 + 1)) ∧ FX12_product_48 d K H11 q (v0) (v1) (v2) (v3) (v4) (v5) ((v6 + 1))))) : FX12_product_48 d K H q (v0) (v1) (v2) (v3) (v4) (v5) (v6) := by
  unfold FX12_product_48
  refine r_iload 6 dX12_product_48 rfl ?_
  refine r_iload_n 3 dX12_product_50 rfl rfl ?_
  refine r_iload 4 dX12_product_51 rfl ?_
  obtain ⟨h1, h⟩ := h
  refine r_iadd dX12_product_53 h1 ?_
  refine r_icmp_gt (tgt := 74) dX12_product_54 (by decide) (fun c2 => ?_) (fun c2 => ?_)
  · replace h := h.1 c2
    refine r_iconst dX12_product_74 (by decide) (by decide) ?_
    refine r_istore dX12_product_75 (by decide) rfl ?_
    refine Fr.fewer [1, 2, 3, 4, 5, 6, 0] rfl ?_
    exact h
  · replace h := h.2 c2
    refine r_aload_n 0 dX12_product_57 rfl rfl ?_
    obtain ⟨h3, h⟩ := h
    obtain ⟨h4, h⟩ := h
    refine r_getf cls12 1 dX12_product_58 (by decide) fl_RX12_7 rfl h3 h4 ?_
    refine r_iload 5 dX12_product_61 rfl ?_
    refine r_iload 6 dX12_product_63 rfl ?_
    obtain ⟨h5, h⟩ := h
    refine r_iadd dX12_product_65 h5 ?_
    refine r_iconst dX12_product_66 (by decide) (by decide) ?_
    obtain ⟨h6, h⟩ := h
    obtain ⟨n7, h⟩ := h
    obtain ⟨h8, h⟩ := h
    obtain ⟨h9, h⟩ := h
    obtain ⟨h10, h⟩ := h
    refine r_iast n7 dX12_product_67 h6 h8 h9 h10 ?_
    replace h := h _ rfl
    generalize upA H ((H (v0 : Int).toNat 1) : Int).toNat (up1 (H ((H (v0 : Int).toNat 1) : Int).toNat) ((v5 + v6) : Int).toNat 0) = H11 at h ⊢
    obtain ⟨h12, h⟩ := h
    refine r_iinc 6 dX12_product_68 (by decide) rfl h12 rfl ?_
    refine r_goto (tgt := 48) dX12_product_71 (by decide) ?_
    refine Fr.fewer [1, 2, 3, 4, 5, 6, 0] rfl ?_
    exact h
set_option maxHeartbeats 4000000 in
set_option maxRecDepth 20000 in
theorem bX12_product_77 {d : Nat} {K : Shp} {H : Mem} {q : Int → Mem → Prop} {v0 v1 v2 v3 v4 v5 v6 : Int} (h : ((¬ (v6 : Int) ≤ v3 → (inI (v3 + v4)) ∧ ((0 : Int) ≤ v0) ∧ (K[(v0 : Int).toNat]? = some (12, 51)) ∧ Ci mX12_sign d [(2, v0), (0, v1)] K H (fun x6 H5 => Ci mX12_sign d [(2, v0), (0, v2)] K H5 (fun x8 H7 => (((x6 : Int) = x8 → Ci mX12_done d [(2, v0), (0, v5), (0, (v3 + v4)), (0, 0)] K H7 (fun x11 H10 => q x11 H10)) ∧ (¬ (x6 : Int) = x8 → Ci mX12_done d [(2, v0), (0, v5), (0, (v3 + v4)), (0, 1)] K H7 (fun x13 H12 => q x13 H12)))))) ∧ ((v6 : Int) ≤ v3 → ((0 : Int) ≤ v0) ∧ (K[(v0 : Int).toNat]? = some (12, 51)) ∧ (inI (v1 + v6)) ∧ ((0 : Int) ≤ (H (v0 : Int).toNat 1)) ∧ ∃ n18 : Nat, (K[((H (v0 : Int).toNat 1) : Int).toNat]? = some (20, n18)) ∧ ((0 : Int) ≤ (v1 + v6)) ∧ (((v1 + v6) : Int) < n18) ∧ FX12_product_101 d K H q (v0) (v1) (v2) (v3) (v4) (v5) (v6) (0) ((H ((H (v0 : Int).toNat 1) : Int).toNat ((v1 + v6) : Int).toNat)) (1)))) : FX12_product_77 d K H q (v0) (v1) (v2) (v3) (v4) (v5) (v6) := by
  unfold FX12_product_77
  refine r_iload 6 dX12_product_77 rfl ?_
  refine r_iload_n 3 dX12_product_79 rfl rfl ?_
  refine r_icmp_gt (tgt := 200) dX12_product_80 (by decide) (fun c1 => ?_) (fun c1 => ?_)
  · replace h := h.1 c1
    refine r_aload_n 0 dX12_product_200 rfl rfl ?_
    refine r_iload 5 dX12_product_201 rfl ?_
    refine r_iload_n 3 dX12_product_203 rfl rfl ?_
    refine r_iload 4 dX12_product_204 rfl ?_
    obtain ⟨h2, h⟩ := h
    refine r_iadd dX12_product_206 h2 ?_
    refine r_aload_n 0 dX12_product_207 rfl rfl ?_
    refine r_iload_n 1 dX12_product_208 rfl rfl ?_
    obtain ⟨h3, h⟩ := h
    obtain ⟨h4, h⟩ := h
    refine r_invV (M := mX12_product) (As := [(0, v1)]) (st := [(0, (v3 + v4)), (0, v5), (2, v0)]) (X := v0) (mc := 0) (ms := 0) (fc := 0) (fs := 0) h ok_X12_sign cls12 im_X12_sign se_X12_sign ml_RX12_112 dX12_product_209 rfl h3 h4 (Nat.le_of_ble_eq_true rfl) rfl ?_
    rintro r K1 H5 ⟨rfl, x6, rfl, h⟩ -
    show Fr mX12_product (d + 1) 0 0 none 212 [(0, (2, v0)), (1, (0, v1)), (2, (0, v2)), (3, (0, v3)), (4, (0, v4)), (5, (0, v5)), (6, (0, v6))] [(0, x6), (0, (v3 + v4)), (0, v5), (2, v0)] _ H5 _
    refine r_aload_n 0 dX12_product_212 rfl rfl ?_
    refine r_iload_n 2 dX12_product_213 rfl rfl ?_
    refine r_invV (M := mX12_product) (As := [(0, v2)]) (st := [(0, x6), (0, (v3 + v4)), (0, v5), (2, v0)]) (X := v0) (mc := 0) (ms := 0) (fc := 0) (fs := 0) h ok_X12_sign cls12 im_X12_sign se_X12_sign ml_RX12_112 dX12_product_214 rfl h3 h4 (Nat.le_of_ble_eq_true rfl) rfl ?_
    rintro r K1 H7 ⟨rfl, x8, rfl, h⟩ -
    show Fr mX12_product (d + 1) 0 0 none 217 [(0, (2, v0)), (1, (0, v1)), (2, (0, v2)), (3, (0, v3)), (4, (0, v4)), (5, (0, v5)), (6, (0, v6))] [(0, x8), (0, x6), (0, (v3 + v4)), (0, v5), (2, v0)] _ H7 _
    refine r_icmp_eq (tgt := 224) dX12_product_217 (by decide) (fun c9 => ?_) (fun c9 => ?_)
    · replace h := h.1 c9
      refine r_iconst dX12_product_224 (by decide) (by decide) ?_
      refine r_invV (M := mX12_product) (As := [(0, v5), (0, (v3 + v4)), (0, 0)]) (st := []) (X := v0) (mc := 0) (ms := 0) (fc := 0) (fs := 0) h ok_X12_done cls12 im_X12_done se_X12_done ml_RX12_102 dX12_product_225 rfl h3 h4 (Nat.le_of_ble_eq_true rfl) rfl ?_
      rintro r K1 H10 ⟨rfl, x11, rfl, h⟩ -
      show Fr mX12_product (d + 1) 0 0 none 228 [(0, (2, v0)), (1, (0, v1)), (2, (0, v2)), (3, (0, v3)), (4, (0, v4)), (5, (0, v5)), (6, (0, v6))] [(0, x11)] _ H10 _
      exact r_iret dX12_product_228 rfl ⟨rfl, _, rfl, h⟩
    · replace h := h.2 c9
      refine r_iconst dX12_product_220 (by decide) (by decide) ?_
      refine r_goto (tgt := 225) dX12_product_221 (by decide) ?_
      refine r_invV (M := mX12_product) (As := [(0, v5), (0, (v3 + v4)), (0, 1)]) (st := []) (X := v0) (mc := 0) (ms := 0) (fc := 0) (fs := 0) h ok_X12_done cls12 im_X12_done se_X12_done ml_RX12_102 dX12_product_225 rfl h3 h4 (Nat.le_of_ble_eq_true rfl) rfl ?_
      rintro r K1 H12 ⟨rfl, x13, rfl, h⟩ -
      show Fr mX12_product (d + 1) 0 0 none 228 [(0, (2, v0)), (1, (0, v1)), (2, (0, v2)), (3, (0, v3)), (4, (0, v4)), (5, (0, v5)), (6, (0, v6))] [(0, x13)] _ H12 _
      exact r_iret dX12_product_228 rfl ⟨rfl, _, rfl, h⟩
  · replace h := h.2 c1
    refine r_lconst0 dX12_product_83 ?_
    refine r_lstore dX12_product_84 (by decide) rfl ?_
    refine r_aload_n 1 dX12_product_86 rfl rfl ?_
    obtain ⟨h14, h⟩ := h
    obtain ⟨h15, h⟩ := h
    refine r_getf cls12 1 dX12_product_87 (by decide) fl_RX12_7 rfl h14 h15 ?_
    refine r_iload_n 2 dX12_product_90 rfl rfl ?_
    refine r_iload 7 dX12_product_91 rfl ?_
    obtain ⟨h16, h⟩ := h
    refine r_iadd dX12_product_93 h16 ?_
    obtain ⟨h17, h⟩ := h
    obtain ⟨n18, h⟩ := h
    obtain ⟨h19, h⟩ := h
    obtain ⟨h20, h⟩ := h
    obtain ⟨h21, h⟩ := h
    refine r_iald n18 dX12_product_94 h17 h19 h20 h21 ?_
    refine r_i2l dX12_product_95 ?_
    refine r_lstore dX12_product_96 (by decide) rfl ?_
    refine r_iconst dX12_product_98 (by decide) (by decide) ?_
    refine r_istore dX12_product_99 (by decide) rfl ?_
    refine Fr.fewer [3, 4, 5, 6, 7, 8, 9, 2, 1, 0] rfl ?_
    exact h
set_option maxHeartbeats 4000000 in
set_option maxRecDepth 20000 in
theorem bX12_product_101 {d : Nat} {K : Shp} {H : Mem} {q : Int → Mem → Prop} {v0 v1 v2 v3 v4 v5 v6 v7 v9 v11 : Int} (h : ((¬ (v11 : Int) ≤ v4 → ((0 : Int) ≤ v0) ∧ (K[(v0 : Int).toNat]? = some (12, 51)) ∧ (inI (v5 + v6)) ∧ (inI ((v5 + v6) + v4)) ∧ (inI v7) ∧ ((0 : Int) ≤ (H (v0 : Int).toNat 1)) ∧ ∃ n8 : Nat, (K[((H (v0 : Int).toNat 1) : Int).toNat]? = some (20, n8)) ∧ ((0 : Int) ≤ ((v5 + v6) + v4)) ∧ ((((v5 + v6) + v4) : Int) < n8) ∧ ∀ H12 : Mem, H12 = upA H ((H (v0 : Int).toNat 1) : Int).toNat (up1 (H ((H (v0 : Int).toNat 1) : Int).toNat) (((v5 + v6) + v4) : Int).toNat v7) → (inI (v6 + 1)) ∧ FX12_product_77 d K H12 q (v0) (v1) (v2) (v3) (v4) (v5) ((v6 + 1))) ∧ ((v11 : Int) ≤ v4 → ((0 : Int) ≤ v0) ∧ (K[(v0 : Int).toNat]? = some (12, 51)) ∧ (inI (v2 + v11)) ∧ ((0 : Int) ≤ (H (v0 : Int).toNat 1)) ∧ ∃ n18 : Nat, (K[((H (v0 : Int).toNat 1) : Int).toNat]? = some (20, n18)) ∧ ((0 : Int) ≤ (v2 + v11)) ∧ (((v2 + v11) : Int) < n18) ∧ (inL (v9 * (H ((H (v0 : Int).toNat 1) : Int).toNat ((v2 + v11) : Int).toNat))) ∧ (inI (v5 + v6)) ∧ (inI ((v5 + v6) + v11)) ∧ (inI (((v5 + v6) + v11) - 1)) ∧ ((0 : Int) ≤ (((v5 + v6) + v11) - 1)) ∧ (((((v5 + v6) + v11) - 1) : Int) < n18) ∧ (inL ((v9 * (H ((H (v0 : Int).toNat 1) : Int).toNat ((v2 + v11) : Int).toNat)) + (H ((H (v0 : Int).toNat 1) : Int).toNat ((((v5 + v6) + v11) - 1) : Int).toNat))) ∧ (inL (v7 + ((v9 * (H ((H (v0 : Int).toNat 1) : Int).toNat ((v2 + v11) : Int).toNat)) + (H ((H (v0 : Int).toNat 1) : Int).toNat ((((v5 + v6) + v11) - 1) : Int).toNat)))) ∧ (inI ((v7 + ((v9 * (H ((H (v0 : Int).toNat 1) : Int).toNat ((v2 + v11) : Int).toNat)) + (H ((H (v0 : Int).toNat 1) : Int).toNat ((((v5 + v6) + v11) - 1) : Int).toNat))) % 1073741824)) ∧ ∀ H31 : Mem, H31 = upA H ((H (v0 : Int).toNat 1) : Int).toNat (up1 (H ((H (v0 : Int).toNat 1) : Int).toNat) ((((v5 + v6) + v11) - 1) : Int).toNat ((v7 + ((v9 * (H ((H (v0 : Int).toNat 1) : Int).toNat ((v2 + v11) : Int).toNat)) + (H ((H (v0 : Int).toNat 1) : Int).toNat ((((v5 + v6) + v11) - 1) : Int).toNat))) % 1073741824)) → ((0 : Int) ≤ (v7 + ((v9 * (H ((H (v0 : Int).toNat 1) : Int).toNat ((v2 + v11) : Int).toNat)) + (H ((H (v0 : Int).toNat 1) : Int).toNat ((((v5 + v6) + v11) - 1) : Int).toNat)))) ∧ (inI (v11 + 1)) ∧ FX12_product_101 d K H31 q (v0) (v1) (v2) (v3) (v4) (v5) (v6) (((v7 + ((v9 * (H ((H (v0 : Int).toNat 1) : Int).toNat ((v2 + v11) : Int).toNat)) + (H ((H (v0 : Int).toNat 1) : Int).toNat ((((v5 + v6) + v11) - 1) : Int).toNat))) / 1073741824)) (v9) ((v11 + 1))))) : FX12_product_101 d K H q (v0) (v1) (v2) (v3) (v4) (v5) (v6) (v7) (v9) (v11) := by
  unfold FX12_product_101
  refine r_iload 9 dX12_product_101 rfl ?_
  refine r_iload 4 dX12_product_103 rfl ?_
  refine r_icmp_gt (tgt := 178) dX12_product_105 (by decide) (fun c1 => ?_) (fun c1 => ?_)
  · replace h := h.1 c1
    refine r_aload_n 0 dX12_product_178 rfl rfl ?_
    obtain ⟨h2, h⟩ := h
    obtain ⟨h3, h⟩ := h
    refine r_getf cls12 1 dX12_product_179 (by decide) fl_RX12_7 rfl h2 h3 ?_
    refine r_iload 5 dX12_product_182 rfl ?_
    refine r_iload 6 dX12_product_184 rfl ?_
    obtain ⟨h4, h⟩ := h
    refine r_iadd dX12_product_186 h4 ?_
    refine r_iload 4 dX12_product_187 rfl ?_
    obtain ⟨h5, h⟩ := h
    refine r_iadd dX12_product_189 h5 ?_
    refine r_lload 7 dX12_product_190 rfl ?_
    obtain ⟨h6, h⟩ := h
    refine r_l2i dX12_product_192 h6 ?_
    obtain ⟨h7, h⟩ := h
    obtain ⟨n8, h⟩ := h
    obtain ⟨h9, h⟩ := h
    obtain ⟨h10, h⟩ := h
    obtain ⟨h11, h⟩ := h
    refine r_iast n8 dX12_product_193 h7 h9 h10 h11 ?_
    replace h := h _ rfl
    generalize upA H ((H (v0 : Int).toNat 1) : Int).toNat (up1 (H ((H (v0 : Int).toNat 1) : Int).toNat) (((v5 + v6) + v4) : Int).toNat v7) = H12 at h ⊢
    obtain ⟨h13, h⟩ := h
    refine r_iinc 6 dX12_product_194 (by decide) rfl h13 rfl ?_
    refine r_goto (tgt := 77) dX12_product_197 (by decide) ?_
    refine Fr.fewer [1, 2, 3, 4, 5, 6, 0] rfl ?_
    exact h
  · replace h := h.2 c1
    refine r_lload 7 dX12_product_108 rfl ?_
    refine r_lload 8 dX12_product_110 rfl ?_
    refine r_aload_n 0 dX12_product_112 rfl rfl ?_
    obtain ⟨h14, h⟩ := h
    obtain ⟨h15, h⟩ := h
    refine r_getf cls12 1 dX12_product_113 (by decide) fl_RX12_7 rfl h14 h15 ?_
    refine r_iload_n 2 dX12_product_116 rfl rfl ?_
    refine r_iload 9 dX12_product_117 rfl ?_
    obtain ⟨h16, h⟩ := h
    refine r_iadd dX12_product_119 h16 ?_
    obtain ⟨h17, h⟩ := h
    obtain ⟨n18, h⟩ := h
    obtain ⟨h19, h⟩ := h
    obtain ⟨h20, h⟩ := h
    obtain ⟨h21, h⟩ := h
    refine r_iald n18 dX12_product_120 h17 h19 h20 h21 ?_
    refine r_i2l dX12_product_121 ?_
    obtain ⟨h22, h⟩ := h
    refine r_lmul dX12_product_122 h22 ?_
    refine r_aload_n 0 dX12_product_123 rfl rfl ?_
    refine r_getf cls12 1 dX12_product_124 (by decide) fl_RX12_7 rfl h14 h15 ?_
    refine r_iload 5 dX12_product_127 rfl ?_
    refine r_iload 6 dX12_product_129 rfl ?_
    obtain ⟨h23, h⟩ := h
    refine r_iadd dX12_product_131 h23 ?_
    refine r_iload 9 dX12_product_132 rfl ?_
    obtain ⟨h24, h⟩ := h
    refine r_iadd dX12_product_134 h24 ?_
    refine r_iconst dX12_product_135 (by decide) (by decide) ?_
    obtain ⟨h25, h⟩ := h
    refine r_isub dX12_product_136 h25 ?_
    obtain ⟨h26, h⟩ := h
    obtain ⟨h27, h⟩ := h
    refine r_iald n18 dX12_product_137 h17 h19 h26 h27 ?_
    refine r_i2l dX12_product_138 ?_
    obtain ⟨h28, h⟩ := h
    refine r_ladd dX12_product_139 h28 ?_
    obtain ⟨h29, h⟩ := h
    refine r_ladd dX12_product_140 h29 ?_
    refine r_lstore dX12_product_141 (by decide) rfl ?_
    refine r_aload_n 1 dX12_product_143 rfl rfl ?_
    refine r_getf cls12 1 dX12_product_144 (by decide) fl_RX12_7 rfl h14 h15 ?_
    refine r_iload 6 dX12_product_147 rfl ?_
    refine r_iload 7 dX12_product_149 rfl ?_
    refine r_iadd dX12_product_151 h23 ?_
    refine r_iload 9 dX12_product_152 rfl ?_
    refine r_iadd dX12_product_154 h24 ?_
    refine r_iconst dX12_product_155 (by decide) (by decide) ?_
    refine r_isub dX12_product_156 h25 ?_
    refine r_lload 0 dX12_product_157 rfl ?_
    refine r_ldc2 (x := 1073741823) dX12_product_159 kl_RX12_100 (by decide) (by decide) ?_
    refine r_land30 dX12_product_162 ?_
    obtain ⟨h30, h⟩ := h
    refine r_l2i dX12_product_163 h30 ?_
    refine r_iast n18 dX12_product_164 h17 h19 h26 h27 ?_
    replace h := h _ rfl
    generalize upA H ((H (v0 : Int).toNat 1) : Int).toNat (up1 (H ((H (v0 : Int).toNat 1) : Int).toNat) ((((v5 + v6) + v11) - 1) : Int).toNat ((v7 + ((v9 * (H ((H (v0 : Int).toNat 1) : Int).toNat ((v2 + v11) : Int).toNat)) + (H ((H (v0 : Int).toNat 1) : Int).toNat ((((v5 + v6) + v11) - 1) : Int).toNat))) % 1073741824)) = H31 at h ⊢
    refine r_lload 0 dX12_product_165 rfl ?_
    refine r_bipush dX12_product_167 (by decide) (by decide) ?_
    obtain ⟨h32, h⟩ := h
    refine r_lushr30 dX12_product_169 h32 ?_
    refine r_lstore dX12_product_170 (by decide) rfl ?_
    obtain ⟨h33, h⟩ := h
    refine r_iinc 9 dX12_product_172 (by decide) rfl h33 rfl ?_
    refine r_goto (tgt := 101) dX12_product_175 (by decide) ?_
    refine Fr.fewer [2, 3, 4, 5, 6, 7, 8, 1, 9, 0] rfl ?_
    exact h
set_option maxHeartbeats 4000000 in
set_option maxRecDepth 20000 in
theorem eX12_product {d : Nat} {K : Shp} {H : Mem} {q : Int → Mem → Prop} {v0 v1 v2 : Int} (h : inI v1 → inI v2 → Rng K H → FX12_product_0 d K H q v0 v1 v2) : Ci mX12_product (d + 1) [(2, v0), (0, v1), (0, v2)] K H q := Call.of rfl (Nat.le_of_ble_eq_true rfl) (fun o r => h (o (0, v1) (by simp)) (o (0, v2) (by simp)) r)
def FX12_divide_0 (d : Nat) (K : Shp) (H : Mem) (q : Mem → Prop) (v0 : Int) (v1 : Int) (v2 : Int) : Prop := Fr mX12_divide (d + 1) 0 0 none 0 [(0, (2, v0)), (1, (0, v1)), (2, (0, v2))] [] K H (qv K q)
def FX12_divide_16 (d : Nat) (K : Shp) (H : Mem) (q : Mem → Prop) (v0 : Int) (v1 : Int) (v2 : Int) (v3 : Int) (v4 : Int) (v5 : Int) : Prop := Fr mX12_divide (d + 1) 0 0 none 16 [(0, (2, v0)), (1, (0, v1)), (2, (0, v2)), (3, (0, v3)), (4, (0, v4)), (5, (0, v5))] [] K H (qv K q)
def FX12_divide_88 (d : Nat) (K : Shp) (H : Mem) (q : Mem → Prop) (v0 : Int) (v2 : Int) (v3 : Int) (v4 : Int) (v5 : Int) : Prop := Fr mX12_divide (d + 1) 0 0 none 88 [(0, (2, v0)), (2, (0, v2)), (3, (0, v3)), (4, (0, v4)), (5, (0, v5))] [] K H (qv K q)
def FX12_divide_114 (d : Nat) (K : Shp) (H : Mem) (q : Mem → Prop) (v0 : Int) (v2 : Int) (v3 : Int) (v4 : Int) (v5 : Int) (v6 : Int) : Prop := Fr mX12_divide (d + 1) 0 0 none 114 [(0, (2, v0)), (2, (0, v2)), (3, (0, v3)), (4, (0, v4)), (5, (0, v5)), (6, (0, v6))] [] K H (qv K q)
def FX12_divide_215 (d : Nat) (K : Shp) (H : Mem) (q : Mem → Prop) (v0 : Int) (v3 : Int) (v4 : Int) (v5 : Int) (v6 : Int) : Prop := Fr mX12_divide (d + 1) 0 0 none 215 [(0, (2, v0)), (3, (0, v3)), (4, (0, v4)), (5, (0, v5)), (6, (0, v6))] [] K H (qv K q)
def FX12_divide_173 (d : Nat) (K : Shp) (H : Mem) (q : Mem → Prop) (v0 : Int) (v2 : Int) (v3 : Int) (v4 : Int) (v5 : Int) (v6 : Int) (s0 : Int) (s1 : Int) (s2 : Int) (s3 : Int) : Prop := Fr mX12_divide (d + 1) 0 0 none 173 [(0, (2, v0)), (2, (0, v2)), (3, (0, v3)), (4, (0, v4)), (5, (0, v5)), (6, (0, v6))] [(0, s0), (0, s1), (0, s2), (2, s3)] K H (qv K q)
def FX12_divide_292 (d : Nat) (K : Shp) (H : Mem) (q : Mem → Prop) (v0 : Int) (v4 : Int) (v5 : Int) (v6 : Int) : Prop := Fr mX12_divide (d + 1) 0 0 none 292 [(0, (2, v0)), (4, (0, v4)), (5, (0, v5)), (6, (0, v6))] [] K H (qv K q)
def FX12_divide_268 (d : Nat) (K : Shp) (H : Mem) (q : Mem → Prop) (v0 : Int) (v3 : Int) (v4 : Int) (v5 : Int) (v6 : Int) (s0 : Int) (s1 : Int) (s2 : Int) (s3 : Int) : Prop := Fr mX12_divide (d + 1) 0 0 none 268 [(0, (2, v0)), (3, (0, v3)), (4, (0, v4)), (5, (0, v5)), (6, (0, v6))] [(0, s0), (0, s1), (0, s2), (2, s3)] K H (qv K q)
def FX12_divide_318 (d : Nat) (K : Shp) (H : Mem) (q : Mem → Prop) (v0 : Int) (v4 : Int) (v5 : Int) : Prop := Fr mX12_divide (d + 1) 0 0 none 318 [(0, (2, v0)), (4, (0, v4)), (5, (0, v5))] [] K H (qv K q)
def FX12_divide_355 (d : Nat) (K : Shp) (H : Mem) (q : Mem → Prop) (v0 : Int) (v4 : Int) (v5 : Int) (v6 : Int) : Prop := Fr mX12_divide (d + 1) 0 0 none 355 [(0, (2, v0)), (4, (0, v4)), (5, (0, v5)), (6, (0, v6))] [] K H (qv K q)
def FX12_divide_428 (d : Nat) (K : Shp) (H : Mem) (q : Mem → Prop) (v0 : Int) : Prop := Fr mX12_divide (d + 1) 0 0 none 428 [(0, (2, v0))] [] K H (qv K q)
def FX12_divide_414 (d : Nat) (K : Shp) (H : Mem) (q : Mem → Prop) (v0 : Int) (v4 : Int) (v5 : Int) (v6 : Int) (s0 : Int) (s1 : Int) (s2 : Int) (s3 : Int) : Prop := Fr mX12_divide (d + 1) 0 0 none 414 [(0, (2, v0)), (4, (0, v4)), (5, (0, v5)), (6, (0, v6))] [(0, s0), (0, s1), (0, s2), (2, s3)] K H (qv K q)
set_option maxHeartbeats 4000000 in
set_option maxRecDepth 20000 in
theorem bX12_divide_0 {d : Nat} {K : Shp} {H : Mem} {q : Mem → Prop} {v0 v1 v2 : Int} (h : ((0 : Int) ≤ v0) ∧ (K[(v0 : Int).toNat]? = some (12, 51)) ∧ Ci mX12_places d [(2, v0), (0, v1)] K H (fun x4 H3 => Ci mX12_places d [(2, v0), (0, v2)] K H3 (fun x6 H5 => FX12_divide_16 d K H5 q (v0) (v1) (v2) (x4) (x6) (0)))) : FX12_divide_0 d K H q (v0) (v1) (v2) := by
  unfold FX12_divide_0
  refine r_aload_n 0 dX12_divide_0 rfl rfl ?_
  refine r_iload_n 1 dX12_divide_1 rfl rfl ?_
  obtain ⟨h1, h⟩ := h
  obtain ⟨h2, h⟩ := h
  refine r_invV (M := mX12_divide) (As := [(0, v1)]) (st := []) (X := v0) (mc := 0) (ms := 0) (fc := 0) (fs := 0) h ok_X12_places cls12 im_X12_places se_X12_places ml_RX12_106 dX12_divide_2 rfl h1 h2 (Nat.le_of_ble_eq_true rfl) rfl ?_
  rintro r K1 H3 ⟨rfl, x4, rfl, h⟩ -
  show Fr mX12_divide (d + 1) 0 0 none 5 [(0, (2, v0)), (1, (0, v1)), (2, (0, v2))] [(0, x4)] _ H3 _
  refine r_istore_n dX12_divide_5 rfl (by decide) rfl ?_
  refine r_aload_n 1 dX12_divide_6 rfl rfl ?_
  refine r_iload_n 3 dX12_divide_7 rfl rfl ?_
  refine r_invV (M := mX12_divide) (As := [(0, v2)]) (st := []) (X := v0) (mc := 0) (ms := 0) (fc := 0) (fs := 0) h ok_X12_places cls12 im_X12_places se_X12_places ml_RX12_106 dX12_divide_8 rfl h1 h2 (Nat.le_of_ble_eq_true rfl) rfl ?_
  rintro r K1 H5 ⟨rfl, x6, rfl, h⟩ -
  show Fr mX12_divide (d + 1) 0 0 none 11 [(3, (0, x4)), (0, (2, v0)), (1, (0, v1)), (2, (0, v2))] [(0, x6)] _ H5 _
  refine r_istore dX12_divide_11 (by decide) rfl ?_
  refine r_iconst dX12_divide_13 (by decide) (by decide) ?_
  refine r_istore dX12_divide_14 (by decide) rfl ?_
  refine Fr.fewer [3, 4, 5, 2, 1, 0] rfl ?_
  exact h
set_option maxHeartbeats 4000000 in
set_option maxRecDepth 20000 in
theorem bX12_divide_16 {d : Nat} {K : Shp} {H : Mem} {q : Mem → Prop} {v0 v1 v2 v3 v4 v5 : Int} (h : ((¬ (v5 : Int) < v3 → ((0 : Int) ≤ v0) ∧ (K[(v0 : Int).toNat]? = some (12, 51)) ∧ ∀ H4 : Mem, H4 = upA H (v0 : Int).toNat (up1 (H (v0 : Int).toNat) 6 v3) → ∀ H5 : Mem, H5 = upA H4 (v0 : Int).toNat (up1 (H4 (v0 : Int).toNat) 7 0) → Ci mX12_compareSizes d [(2, v0), (0, v1), (0, v2)] K H5 (fun x7 H6 => ((¬ (x7 : Int) < 0 → ((¬ (v4 : Int) = 1 → FX12_divide_88 d K H6 q (v0) (v2) (v3) (v4) (0)) ∧ ((v4 : Int) = 1 → (inI (v2 + 1)) ∧ ((0 : Int) ≤ (H6 (v0 : Int).toNat 1)) ∧ ∃ n12 : Nat, (K[((H6 (v0 : Int).toNat 1) : Int).toNat]? = some (20, n12)) ∧ ((0 : Int) ≤ (v2 + 1)) ∧ (((v2 + 1) : Int) < n12) ∧ Cv mX12_divideShort d [(2, v0), (0, (H6 ((H6 (v0 : Int).toNat 1) : Int).toNat ((v2 + 1) : Int).toNat))] K H6 (fun H16 => q H16)))) ∧ ((x7 : Int) < 0 → q H6)))) ∧ ((v5 : Int) < v3 → ((0 : Int) ≤ v0) ∧ (K[(v0 : Int).toNat]? = some (12, 51)) ∧ (inI (v1 + 1)) ∧ (inI ((v1 + 1) + v5)) ∧ ((0 : Int) ≤ (H (v0 : Int).toNat 1)) ∧ ∃ n23 : Nat, (K[((H (v0 : Int).toNat 1) : Int).toNat]? = some (20, n23)) ∧ ((0 : Int) ≤ ((v1 + 1) + v5)) ∧ ((((v1 + 1) + v5) : Int) < n23) ∧ ((0 : Int) ≤ (H (v0 : Int).toNat 3)) ∧ ∃ n28 : Nat, (K[((H (v0 : Int).toNat 3) : Int).toNat]? = some (20, n28)) ∧ ((0 : Int) ≤ v5) ∧ ((v5 : Int) < n28) ∧ ∀ H32 : Mem, H32 = upA H ((H (v0 : Int).toNat 3) : Int).toNat (up1 (H ((H (v0 : Int).toNat 3) : Int).toNat) (v5 : Int).toNat (H ((H (v0 : Int).toNat 1) : Int).toNat (((v1 + 1) + v5) : Int).toNat)) → (inI (v5 + 1)) ∧ FX12_divide_16 d K H32 q (v0) (v1) (v2) (v3) (v4) ((v5 + 1))))) : FX12_divide_16 d K H q (v0) (v1) (v2) (v3) (v4) (v5) := by
  unfold FX12_divide_16
  refine r_iload 5 dX12_divide_16 rfl ?_
  refine r_iload_n 3 dX12_divide_18 rfl rfl ?_
  refine r_icmp_ge (tgt := 46) dX12_divide_19 (by decide) (fun c1 => ?_) (fun c1 => ?_)
  · replace h := h.1 c1
    refine r_aload_n 0 dX12_divide_46 rfl rfl ?_
    refine r_iload_n 3 dX12_divide_47 rfl rfl ?_
    obtain ⟨h2, h⟩ := h
    obtain ⟨h3, h⟩ := h
    refine r_putf cls12 6 dX12_divide_48 (by decide) rfl fl_RX12_135 rfl h2 h3 (fun o => o) ?_
    replace h := h _ rfl
    generalize upA H (v0 : Int).toNat (up1 (H (v0 : Int).toNat) 6 v3) = H4 at h ⊢
    refine r_aload_n 0 dX12_divide_51 rfl rfl ?_
    refine r_iconst dX12_divide_52 (by decide) (by decide) ?_
    refine r_putf cls12 7 dX12_divide_53 (by decide) rfl fl_RX12_138 rfl h2 h3 (fun o => o) ?_
    replace h := h _ rfl
    generalize upA H4 (v0 : Int).toNat (up1 (H4 (v0 : Int).toNat) 7 0) = H5 at h ⊢
    refine r_aload_n 0 dX12_divide_56 rfl rfl ?_
    refine r_iload_n 1 dX12_divide_57 rfl rfl ?_
    refine r_iload_n 2 dX12_divide_58 rfl rfl ?_
    refine r_invV (M := mX12_divide) (As := [(0, v1), (0, v2)]) (st := []) (X := v0) (mc := 0) (ms := 0) (fc := 0) (fs := 0) h ok_X12_compareSizes cls12 im_X12_compareSizes se_X12_compareSizes ml_RX12_122 dX12_divide_59 rfl h2 h3 (Nat.le_of_ble_eq_true rfl) rfl ?_
    rintro r K1 H6 ⟨rfl, x7, rfl, h⟩ -
    show Fr mX12_divide (d + 1) 0 0 none 62 [(0, (2, v0)), (1, (0, v1)), (2, (0, v2)), (3, (0, v3)), (4, (0, v4)), (5, (0, v5))] [(0, x7)] _ H6 _
    refine r_if_ge (tgt := 66) dX12_divide_62 (by decide) (fun c8 => ?_) (fun c8 => ?_)
    · replace h := h.1 c8
      refine r_iload 4 dX12_divide_66 rfl ?_
      refine r_iconst dX12_divide_68 (by decide) (by decide) ?_
      refine r_icmp_ne (tgt := 85) dX12_divide_69 (by decide) (fun c9 => ?_) (fun c9 => ?_)
      · replace h := h.1 c9
        refine r_iconst dX12_divide_85 (by decide) (by decide) ?_
        refine r_istore dX12_divide_86 (by decide) rfl ?_
        refine Fr.fewer [1, 3, 4, 5, 0] rfl ?_
        exact h
      · replace h := h.2 c9
        refine r_aload_n 0 dX12_divide_72 rfl rfl ?_
        refine r_aload_n 0 dX12_divide_73 rfl rfl ?_
        refine r_getf cls12 1 dX12_divide_74 (by decide) fl_RX12_7 rfl h2 h3 ?_
        refine r_iload_n 2 dX12_divide_77 rfl rfl ?_
        refine r_iconst dX12_divide_78 (by decide) (by decide) ?_
        obtain ⟨h10, h⟩ := h
        refine r_iadd dX12_divide_79 h10 ?_
        obtain ⟨h11, h⟩ := h
        obtain ⟨n12, h⟩ := h
        obtain ⟨h13, h⟩ := h
        obtain ⟨h14, h⟩ := h
        obtain ⟨h15, h⟩ := h
        refine r_iald n12 dX12_divide_80 h11 h13 h14 h15 ?_
        refine r_invV (M := mX12_divide) (As := [(0, (H6 ((H6 (v0 : Int).toNat 1) : Int).toNat ((v2 + 1) : Int).toNat))]) (st := []) (X := v0) (mc := 0) (ms := 0) (fc := 0) (fs := 0) h ok_X12_divideShort cls12 im_X12_divideShort se_X12_divideShort ml_RX12_141 dX12_divide_81 rfl h2 h3 (Nat.le_of_ble_eq_true rfl) rfl ?_
        rintro r K1 H16 ⟨rfl, rfl, h⟩ -
        show Fr mX12_divide (d + 1) 0 0 none 84 [(0, (2, v0)), (1, (0, v1)), (2, (0, v2)), (3, (0, v3)), (4, (0, v4)), (5, (0, v5))] [] _ H16 _
        exact r_vret dX12_divide_84 rfl ⟨rfl, rfl, h⟩
    · replace h := h.2 c8
      exact r_vret dX12_divide_65 rfl ⟨rfl, rfl, h⟩
  · replace h := h.2 c1
    refine r_aload_n 0 dX12_divide_22 rfl rfl ?_
    obtain ⟨h18, h⟩ := h
    obtain ⟨h19, h⟩ := h
    refine r_getf cls12 3 dX12_divide_23 (by decide) fl_RX12_13 rfl h18 h19 ?_
    refine r_iload 5 dX12_divide_26 rfl ?_
    refine r_aload_n 0 dX12_divide_28 rfl rfl ?_
    refine r_getf cls12 1 dX12_divide_29 (by decide) fl_RX12_7 rfl h18 h19 ?_
    refine r_iload_n 1 dX12_divide_32 rfl rfl ?_
    refine r_iconst dX12_divide_33 (by decide) (by decide) ?_
    obtain ⟨h20, h⟩ := h
    refine r_iadd dX12_divide_34 h20 ?_
    refine r_iload 5 dX12_divide_35 rfl ?_
    obtain ⟨h21, h⟩ := h
    refine r_iadd dX12_divide_37 h21 ?_
    obtain ⟨h22, h⟩ := h
    obtain ⟨n23, h⟩ := h
    obtain ⟨h24, h⟩ := h
    obtain ⟨h25, h⟩ := h
    obtain ⟨h26, h⟩ := h
    refine r_iald n23 dX12_divide_38 h22 h24 h25 h26 ?_
    obtain ⟨h27, h⟩ := h
    obtain ⟨n28, h⟩ := h
    obtain ⟨h29, h⟩ := h
    obtain ⟨h30, h⟩ := h
    obtain ⟨h31, h⟩ := h
    refine r_iast n28 dX12_divide_39 h27 h29 h30 h31 ?_
    replace h := h _ rfl
    generalize upA H ((H (v0 : Int).toNat 3) : Int).toNat (up1 (H ((H (v0 : Int).toNat 3) : Int).toNat) (v5 : Int).toNat (H ((H (v0 : Int).toNat 1) : Int).toNat (((v1 + 1) + v5) : Int).toNat)) = H32 at h ⊢
    obtain ⟨h33, h⟩ := h
    refine r_iinc 5 dX12_divide_40 (by decide) rfl h33 rfl ?_
    refine r_goto (tgt := 16) dX12_divide_43 (by decide) ?_
    refine Fr.fewer [1, 2, 3, 4, 5, 0] rfl ?_
    exact h
set_option maxHeartbeats 4000000 in
set_option maxRecDepth 20000 in
theorem bX12_divide_88 {d : Nat} {K : Shp} {H : Mem} {q : Mem → Prop} {v0 v2 v3 v4 v5 : Int} (h : ((0 : Int) ≤ v0) ∧ (K[(v0 : Int).toNat]? = some (12, 51)) ∧ (inI (v2 + v4)) ∧ ((0 : Int) ≤ (H (v0 : Int).toNat 1)) ∧ ∃ n5 : Nat, (K[((H (v0 : Int).toNat 1) : Int).toNat]? = some (20, n5)) ∧ ((0 : Int) ≤ (v2 + v4)) ∧ (((v2 + v4) : Int) < n5) ∧ ((0 : Int) ≤ v5) ∧ ((v5 : Int) < 32) ∧ ((¬ ((((H ((H (v0 : Int).toNat 1) : Int).toNat ((v2 + v4) : Int).toNat) * (2 ^ (v5 : Int).toNat : Nat)).bmod 4294967296) : Int) < 536870912 → FX12_divide_114 d K H q (v0) (v2) (v3) (v4) (v5) (0)) ∧ (((((H ((H (v0 : Int).toNat 1) : Int).toNat ((v2 + v4) : Int).toNat) * (2 ^ (v5 : Int).toNat : Nat)).bmod 4294967296) : Int) < 536870912 → (inI (v5 + 1)) ∧ FX12_divide_88 d K H q (v0) (v2) (v3) (v4) ((v5 + 1))))) : FX12_divide_88 d K H q (v0) (v2) (v3) (v4) (v5) := by
  unfold FX12_divide_88
  refine r_aload_n 0 dX12_divide_88 rfl rfl ?_
  obtain ⟨h1, h⟩ := h
  obtain ⟨h2, h⟩ := h
  refine r_getf cls12 1 dX12_divide_89 (by decide) fl_RX12_7 rfl h1 h2 ?_
  refine r_iload_n 1 dX12_divide_92 rfl rfl ?_
  refine r_iload 3 dX12_divide_93 rfl ?_
  obtain ⟨h3, h⟩ := h
  refine r_iadd dX12_divide_95 h3 ?_
  obtain ⟨h4, h⟩ := h
  obtain ⟨n5, h⟩ := h
  obtain ⟨h6, h⟩ := h
  obtain ⟨h7, h⟩ := h
  obtain ⟨h8, h⟩ := h
  refine r_iald n5 dX12_divide_96 h4 h6 h7 h8 ?_
  refine r_iload 4 dX12_divide_97 rfl ?_
  obtain ⟨h9, h⟩ := h
  obtain ⟨h10, h⟩ := h
  refine r_ishl dX12_divide_99 h9 h10 ?_
  refine r_ldc (x := 536870912) dX12_divide_100 kc_RX12_145 (by decide) (by decide) ?_
  refine r_icmp_ge (tgt := 111) dX12_divide_102 (by decide) (fun c11 => ?_) (fun c11 => ?_)
  · replace h := h.1 c11
    refine r_iconst dX12_divide_111 (by decide) (by decide) ?_
    refine r_istore dX12_divide_112 (by decide) rfl ?_
    refine Fr.fewer [1, 2, 3, 4, 5, 0] rfl ?_
    exact h
  · replace h := h.2 c11
    obtain ⟨h12, h⟩ := h
    refine r_iinc 4 dX12_divide_105 (by decide) rfl h12 rfl ?_
    refine r_goto (tgt := 88) dX12_divide_108 (by decide) ?_
    refine Fr.fewer [1, 2, 3, 4, 0] rfl ?_
    exact h
set_option maxHeartbeats 4000000 in
set_option maxRecDepth 20000 in
theorem bX12_divide_114 {d : Nat} {K : Shp} {H : Mem} {q : Mem → Prop} {v0 v2 v3 v4 v5 v6 : Int} (h : ((¬ (v6 : Int) < v4 → ((0 : Int) ≤ v0) ∧ (K[(v0 : Int).toNat]? = some (12, 51)) ∧ (((v5 : Int) ≤ 0 → ((0 : Int) ≤ (H (v0 : Int).toNat 3)) ∧ ∃ n6 : Nat, (K[((H (v0 : Int).toNat 3) : Int).toNat]? = some (20, n6)) ∧ ((0 : Int) ≤ v3) ∧ ((v3 : Int) < n6) ∧ ∀ H10 : Mem, H10 = upA H ((H (v0 : Int).toNat 3) : Int).toNat (up1 (H ((H (v0 : Int).toNat 3) : Int).toNat) (v3 : Int).toNat 0) → (inI (v3 - 1)) ∧ FX12_divide_215 d K H10 q (v0) (v3) (v4) (v5) ((v3 - 1))) ∧ (¬ (v5 : Int) ≤ 0 → (inI (v3 - 1)) ∧ ((0 : Int) ≤ (H (v0 : Int).toNat 3)) ∧ ∃ n14 : Nat, (K[((H (v0 : Int).toNat 3) : Int).toNat]? = some (20, n14)) ∧ ((0 : Int) ≤ (v3 - 1)) ∧ (((v3 - 1) : Int) < n14) ∧ (inI (30 - v5)) ∧ ((0 : Int) ≤ (30 - v5)) ∧ (((30 - v5) : Int) < 32) ∧ ((0 : Int) ≤ v3) ∧ ((v3 : Int) < n14) ∧ ∀ H23 : Mem, H23 = upA H ((H (v0 : Int).toNat 3) : Int).toNat (up1 (H ((H (v0 : Int).toNat 3) : Int).toNat) (v3 : Int).toNat ((H ((H (v0 : Int).toNat 3) : Int).toNat ((v3 - 1) : Int).toNat) / (2 ^ ((30 - v5) : Int).toNat : Nat))) → FX12_divide_215 d K H23 q (v0) (v3) (v4) (v5) ((v3 - 1))))) ∧ ((v6 : Int) < v4 → ((0 : Int) ≤ v0) ∧ (K[(v0 : Int).toNat]? = some (12, 51)) ∧ (inI (v2 + 1)) ∧ (inI ((v2 + 1) + v6)) ∧ ((0 : Int) ≤ (H (v0 : Int).toNat 1)) ∧ ∃ n29 : Nat, (K[((H (v0 : Int).toNat 1) : Int).toNat]? = some (20, n29)) ∧ ((0 : Int) ≤ ((v2 + 1) + v6)) ∧ ((((v2 + 1) + v6) : Int) < n29) ∧ ((0 : Int) ≤ v5) ∧ ((v5 : Int) < 32) ∧ (((v6 : Int) ≤ 0 → FX12_divide_173 d K H q (v0) (v2) (v3) (v4) (v5) (v6) (0) (((((H ((H (v0 : Int).toNat 1) : Int).toNat (((v2 + 1) + v6) : Int).toNat) * (2 ^ (v5 : Int).toNat : Nat)).bmod 4294967296) % 1073741824)) (v6) ((H (v0 : Int).toNat 4))) ∧ (¬ (v6 : Int) ≤ 0 → (((v5 : Int) ≤ 0 → FX12_divide_173 d K H q (v0) (v2) (v3) (v4) (v5) (v6) (0) (((((H ((H (v0 : Int).toNat 1) : Int).toNat (((v2 + 1) + v6) : Int).toNat) * (2 ^ (v5 : Int).toNat : Nat)).bmod 4294967296) % 1073741824)) (v6) ((H (v0 : Int).toNat 4))) ∧ (¬ (v5 : Int) ≤ 0 → (inI (v2 + v6)) ∧ ((0 : Int) ≤ (v2 + v6)) ∧ (((v2 + v6) : Int) < n29) ∧ (inI (30 - v5)) ∧ ((0 : Int) ≤ (30 - v5)) ∧ (((30 - v5) : Int) < 32) ∧ FX12_divide_173 d K H q (v0) (v2) (v3) (v4) (v5) (v6) (((H ((H (v0 : Int).toNat 1) : Int).toNat ((v2 + v6) : Int).toNat) / (2 ^ ((30 - v5) : Int).toNat : Nat))) (((((H ((H (v0 : Int).toNat 1) : Int).toNat (((v2 + 1) + v6) : Int).toNat) * (2 ^ (v5 : Int).toNat : Nat)).bmod 4294967296) % 1073741824)) (v6) ((H (v0 : Int).toNat 4))))))))) : FX12_divide_114 d K H q (v0) (v2) (v3) (v4) (v5) (v6) := by
  unfold FX12_divide_114
  refine r_iload 5 dX12_divide_114 rfl ?_
  refine r_iload 3 dX12_divide_116 rfl ?_
  refine r_icmp_ge (tgt := 181) dX12_divide_118 (by decide) (fun c1 => ?_) (fun c1 => ?_)
  · replace h := h.1 c1
    refine r_aload_n 0 dX12_divide_181 rfl rfl ?_
    obtain ⟨h2, h⟩ := h
    obtain ⟨h3, h⟩ := h
    refine r_getf cls12 3 dX12_divide_182 (by decide) fl_RX12_13 rfl h2 h3 ?_
    refine r_iload_n 2 dX12_divide_185 rfl rfl ?_
    refine r_iload 4 dX12_divide_186 rfl ?_
    refine r_if_le (tgt := 208) dX12_divide_188 (by decide) (fun c4 => ?_) (fun c4 => ?_)
    · replace h := h.1 c4
      refine r_iconst dX12_divide_208 (by decide) (by decide) ?_
      obtain ⟨h5, h⟩ := h
      obtain ⟨n6, h⟩ := h
      obtain ⟨h7, h⟩ := h
      obtain ⟨h8, h⟩ := h
      obtain ⟨h9, h⟩ := h
      refine r_iast n6 dX12_divide_209 h5 h7 h8 h9 ?_
      replace h := h _ rfl
      generalize upA H ((H (v0 : Int).toNat 3) : Int).toNat (up1 (H ((H (v0 : Int).toNat 3) : Int).toNat) (v3 : Int).toNat 0) = H10 at h ⊢
      refine r_iload_n 2 dX12_divide_210 rfl rfl ?_
      refine r_iconst dX12_divide_211 (by decide) (by decide) ?_
      obtain ⟨h11, h⟩ := h
      refine r_isub dX12_divide_212 h11 ?_
      refine r_istore dX12_divide_213 (by decide) rfl ?_
      refine Fr.fewer [1, 3, 4, 5, 0] rfl ?_
      exact h
    · replace h := h.2 c4
      refine r_aload_n 0 dX12_divide_191 rfl rfl ?_
      refine r_getf cls12 3 dX12_divide_192 (by decide) fl_RX12_13 rfl h2 h3 ?_
      refine r_iload_n 2 dX12_divide_195 rfl rfl ?_
      refine r_iconst dX12_divide_196 (by decide) (by decide) ?_
      obtain ⟨h12, h⟩ := h
      refine r_isub dX12_divide_197 h12 ?_
      obtain ⟨h13, h⟩ := h
      obtain ⟨n14, h⟩ := h
      obtain ⟨h15, h⟩ := h
      obtain ⟨h16, h⟩ := h
      obtain ⟨h17, h⟩ := h
      refine r_iald n14 dX12_divide_198 h13 h15 h16 h17 ?_
      refine r_bipush dX12_divide_199 (by decide) (by decide) ?_
      refine r_iload 4 dX12_divide_201 rfl ?_
      obtain ⟨h18, h⟩ := h
      refine r_isub dX12_divide_203 h18 ?_
      obtain ⟨h19, h⟩ := h
      obtain ⟨h20, h⟩ := h
      refine r_ishr dX12_divide_204 h19 h20 ?_
      refine r_goto (tgt := 209) dX12_divide_205 (by decide) ?_
      obtain ⟨h21, h⟩ := h
      obtain ⟨h22, h⟩ := h
      refine r_iast n14 dX12_divide_209 h13 h15 h21 h22 ?_
      replace h := h _ rfl
      generalize upA H ((H (v0 : Int).toNat 3) : Int).toNat (up1 (H ((H (v0 : Int).toNat 3) : Int).toNat) (v3 : Int).toNat ((H ((H (v0 : Int).toNat 3) : Int).toNat ((v3 - 1) : Int).toNat) / (2 ^ ((30 - v5) : Int).toNat : Nat))) = H23 at h ⊢
      refine r_iload_n 2 dX12_divide_210 rfl rfl ?_
      refine r_iconst dX12_divide_211 (by decide) (by decide) ?_
      refine r_isub dX12_divide_212 h12 ?_
      refine r_istore dX12_divide_213 (by decide) rfl ?_
      refine Fr.fewer [1, 3, 4, 5, 0] rfl ?_
      exact h
  · replace h := h.2 c1
    refine r_aload_n 0 dX12_divide_121 rfl rfl ?_
    obtain ⟨h24, h⟩ := h
    obtain ⟨h25, h⟩ := h
    refine r_getf cls12 4 dX12_divide_122 (by decide) fl_RX12_16 rfl h24 h25 ?_
    refine r_iload 5 dX12_divide_125 rfl ?_
    refine r_aload_n 0 dX12_divide_127 rfl rfl ?_
    refine r_getf cls12 1 dX12_divide_128 (by decide) fl_RX12_7 rfl h24 h25 ?_
    refine r_iload_n 1 dX12_divide_131 rfl rfl ?_
    refine r_iconst dX12_divide_132 (by decide) (by decide) ?_
    obtain ⟨h26, h⟩ := h
    refine r_iadd dX12_divide_133 h26 ?_
    refine r_iload 5 dX12_divide_134 rfl ?_
    obtain ⟨h27, h⟩ := h
    refine r_iadd dX12_divide_136 h27 ?_
    obtain ⟨h28, h⟩ := h
    obtain ⟨n29, h⟩ := h
    obtain ⟨h30, h⟩ := h
    obtain ⟨h31, h⟩ := h
    obtain ⟨h32, h⟩ := h
    refine r_iald n29 dX12_divide_137 h28 h30 h31 h32 ?_
    refine r_iload 4 dX12_divide_138 rfl ?_
    obtain ⟨h33, h⟩ := h
    obtain ⟨h34, h⟩ := h
    refine r_ishl dX12_divide_140 h33 h34 ?_
    refine r_ldc (x := 1073741823) dX12_divide_141 kc_RX12_121 (by decide) (by decide) ?_
    refine r_iand30 dX12_divide_143 ?_
    refine r_iload 5 dX12_divide_144 rfl ?_
    refine r_if_le (tgt := 172) dX12_divide_146 (by decide) (fun c35 => ?_) (fun c35 => ?_)
    · replace h := h.1 c35
      refine r_iconst dX12_divide_172 (by decide) (by decide) ?_
      refine Fr.fewer [0, 1, 2, 3, 4, 5] rfl ?_
      exact h
    · replace h := h.2 c35
      refine r_iload 4 dX12_divide_149 rfl ?_
      refine r_if_le (tgt := 172) dX12_divide_151 (by decide) (fun c36 => ?_) (fun c36 => ?_)
      · replace h := h.1 c36
        refine r_iconst dX12_divide_172 (by decide) (by decide) ?_
        refine Fr.fewer [0, 1, 2, 3, 4, 5] rfl ?_
        exact h
      · replace h := h.2 c36
        refine r_aload_n 0 dX12_divide_154 rfl rfl ?_
        refine r_getf cls12 1 dX12_divide_155 (by decide) fl_RX12_7 rfl h24 h25 ?_
        refine r_iload_n 1 dX12_divide_158 rfl rfl ?_
        refine r_iload 5 dX12_divide_159 rfl ?_
        obtain ⟨h37, h⟩ := h
        refine r_iadd dX12_divide_161 h37 ?_
        obtain ⟨h38, h⟩ := h
        obtain ⟨h39, h⟩ := h
        refine r_iald n29 dX12_divide_162 h28 h30 h38 h39 ?_
        refine r_bipush dX12_divide_163 (by decide) (by decide) ?_
        refine r_iload 4 dX12_divide_165 rfl ?_
        obtain ⟨h40, h⟩ := h
        refine r_isub dX12_divide_167 h40 ?_
        obtain ⟨h41, h⟩ := h
        obtain ⟨h42, h⟩ := h
        refine r_ishr dX12_divide_168 h41 h42 ?_
        refine r_goto (tgt := 173) dX12_divide_169 (by decide) ?_
        refine Fr.fewer [0, 1, 2, 3, 4, 5] rfl ?_
        exact h
set_option maxHeartbeats 4000000 in
set_option maxRecDepth 20000 in
theorem bX12_divide_215 {d : Nat} {K : Shp} {H : Mem} {q : Mem → Prop} {v0 v3 v4 v5 v6 : Int} (h : (((v6 : Int) < 0 → (inI (v3 - v4)) ∧ (inI ((v3 - v4) + 1)) ∧ ((0 : Int) ≤ v0) ∧ (K[(v0 : Int).toNat]? = some (12, 51)) ∧ ∀ H6 : Mem, H6 = upA H (v0 : Int).toNat (up1 (H (v0 : Int).toNat) 7 ((v3 - v4) + 1)) → FX12_divide_292 d K H6 q (v0) (v4) (v5) ((v3 - v4))) ∧ (¬ (v6 : Int) < 0 → ((0 : Int) ≤ v0) ∧ (K[(v0 : Int).toNat]? = some (12, 51)) ∧ ((0 : Int) ≤ (H (v0 : Int).toNat 3)) ∧ ∃ n10 : Nat, (K[((H (v0 : Int).toNat 3) : Int).toNat]? = some (20, n10)) ∧ ((0 : Int) ≤ v6) ∧ ((v6 : Int) < n10) ∧ ((0 : Int) ≤ v5) ∧ ((v5 : Int) < 32) ∧ (((v6 : Int) ≤ 0 → FX12_divide_268 d K H q (v0) (v3) (v4) (v5) (v6) (0) (((((H ((H (v0 : Int).toNat 3) : Int).toNat (v6 : Int).toNat) * (2 ^ (v5 : Int).toNat : Nat)).bmod 4294967296) % 1073741824)) (v6) ((H (v0 : Int).toNat 3))) ∧ (¬ (v6 : Int) ≤ 0 → (((v5 : Int) ≤ 0 → FX12_divide_268 d K H q (v0) (v3) (v4) (v5) (v6) (0) (((((H ((H (v0 : Int).toNat 3) : Int).toNat (v6 : Int).toNat) * (2 ^ (v5 : Int).toNat : Nat)).bmod 4294967296) % 1073741824)) (v6) ((H (v0 : Int).toNat 3))) ∧ (¬ (v5 : Int) ≤ 0 → (inI (v6 - 1)) ∧ ((0 : Int) ≤ (v6 - 1)) ∧ (((v6 - 1) : Int) < n10) ∧ (inI (30 - v5)) ∧ ((0 : Int) ≤ (30 - v5)) ∧ (((30 - v5) : Int) < 32) ∧ FX12_divide_268 d K H q (v0) (v3) (v4) (v5) (v6) (((H ((H (v0 : Int).toNat 3) : Int).toNat ((v6 - 1) : Int).toNat) / (2 ^ ((30 - v5) : Int).toNat : Nat))) (((((H ((H (v0 : Int).toNat 3) : Int).toNat (v6 : Int).toNat) * (2 ^ (v5 : Int).toNat : Nat)).bmod 4294967296) % 1073741824)) (v6) ((H (v0 : Int).toNat 3))))))))) : FX12_divide_215 d K H q (v0) (v3) (v4) (v5) (v6) := by
  unfold FX12_divide_215
  refine r_iload 4 dX12_divide_215 rfl ?_
  refine r_if_lt (tgt := 276) dX12_divide_217 (by decide) (fun c1 => ?_) (fun c1 => ?_)
  · replace h := h.1 c1
    refine r_aload_n 0 dX12_divide_276 rfl rfl ?_
    refine r_iload_n 1 dX12_divide_277 rfl rfl ?_
    refine r_iload 2 dX12_divide_278 rfl ?_
    obtain ⟨h2, h⟩ := h
    refine r_isub dX12_divide_280 h2 ?_
    refine r_iconst dX12_divide_281 (by decide) (by decide) ?_
    obtain ⟨h3, h⟩ := h
    refine r_iadd dX12_divide_282 h3 ?_
    obtain ⟨h4, h⟩ := h
    obtain ⟨h5, h⟩ := h
    refine r_putf cls12 7 dX12_divide_283 (by decide) rfl fl_RX12_138 rfl h4 h5 (fun o => o) ?_
    replace h := h _ rfl
    generalize upA H (v0 : Int).toNat (up1 (H (v0 : Int).toNat) 7 ((v3 - v4) + 1)) = H6 at h ⊢
    refine r_iload_n 1 dX12_divide_286 rfl rfl ?_
    refine r_iload 2 dX12_divide_287 rfl ?_
    refine r_isub dX12_divide_289 h2 ?_
    refine r_istore dX12_divide_290 (by decide) rfl ?_
    refine Fr.fewer [1, 3, 4, 0] rfl ?_
    exact h
  · replace h := h.2 c1
    refine r_aload_n 0 dX12_divide_220 rfl rfl ?_
    obtain ⟨h7, h⟩ := h
    obtain ⟨h8, h⟩ := h
    refine r_getf cls12 3 dX12_divide_221 (by decide) fl_RX12_13 rfl h7 h8 ?_
    refine r_iload 4 dX12_divide_224 rfl ?_
    refine r_aload_n 0 dX12_divide_226 rfl rfl ?_
    refine r_getf cls12 3 dX12_divide_227 (by decide) fl_RX12_13 rfl h7 h8 ?_
    refine r_iload 4 dX12_divide_230 rfl ?_
    obtain ⟨h9, h⟩ := h
    obtain ⟨n10, h⟩ := h
    obtain ⟨h11, h⟩ := h
    obtain ⟨h12, h⟩ := h
    obtain ⟨h13, h⟩ := h
    refine r_iald n10 dX12_divide_232 h9 h11 h12 h13 ?_
    refine r_iload 3 dX12_divide_233 rfl ?_
    obtain ⟨h14, h⟩ := h
    obtain ⟨h15, h⟩ := h
    refine r_ishl dX12_divide_235 h14 h15 ?_
    refine r_ldc (x := 1073741823) dX12_divide_236 kc_RX12_121 (by decide) (by decide) ?_
    refine r_iand30 dX12_divide_238 ?_
    refine r_iload 4 dX12_divide_239 rfl ?_
    refine r_if_le (tgt := 267) dX12_divide_241 (by decide) (fun c16 => ?_) (fun c16 => ?_)
    · replace h := h.1 c16
      refine r_iconst dX12_divide_267 (by decide) (by decide) ?_
      refine Fr.fewer [0, 1, 2, 3, 4] rfl ?_
      exact h
    · replace h := h.2 c16
      refine r_iload 3 dX12_divide_244 rfl ?_
      refine r_if_le (tgt := 267) dX12_divide_246 (by decide) (fun c17 => ?_) (fun c17 => ?_)
      · replace h := h.1 c17
        refine r_iconst dX12_divide_267 (by decide) (by decide) ?_
        refine Fr.fewer [0, 1, 2, 3, 4] rfl ?_
        exact h
      · replace h := h.2 c17
        refine r_aload_n 0 dX12_divide_249 rfl rfl ?_
        refine r_getf cls12 3 dX12_divide_250 (by decide) fl_RX12_13 rfl h7 h8 ?_
        refine r_iload 4 dX12_divide_253 rfl ?_
        refine r_iconst dX12_divide_255 (by decide) (by decide) ?_
        obtain ⟨h18, h⟩ := h
        refine r_isub dX12_divide_256 h18 ?_
        obtain ⟨h19, h⟩ := h
        obtain ⟨h20, h⟩ := h
        refine r_iald n10 dX12_divide_257 h9 h11 h19 h20 ?_
        refine r_bipush dX12_divide_258 (by decide) (by decide) ?_
        refine r_iload 3 dX12_divide_260 rfl ?_
        obtain ⟨h21, h⟩ := h
        refine r_isub dX12_divide_262 h21 ?_
        obtain ⟨h22, h⟩ := h
        obtain ⟨h23, h⟩ := h
        refine r_ishr dX12_divide_263 h22 h23 ?_
        refine r_goto (tgt := 268) dX12_divide_264 (by decide) ?_
        refine Fr.fewer [0, 1, 2, 3, 4] rfl ?_
        exact h
set_option maxHeartbeats 4000000 in
set_option maxRecDepth 20000 in
theorem bX12_divide_173 {d : Nat} {K : Shp} {H : Mem} {q : Mem → Prop} {v0 v2 v3 v4 v5 v6 s0 s1 s2 s3 : Int} (h : (∃ n : Nat, (0 : Int) ≤ s1 ∧ (s1 : Int) % (2 ^ n : Nat) = 0 ∧ (0 : Int) ≤ s0 ∧ (s0 : Int) < (2 ^ n : Nat) ∧ inI (s1 + s0)) ∧ ((0 : Int) ≤ s3) ∧ ∃ n3 : Nat, (K[(s3 : Int).toNat]? = some (20, n3)) ∧ ((0 : Int) ≤ s2) ∧ ((s2 : Int) < n3) ∧ ∀ H7 : Mem, H7 = upA H (s3 : Int).toNat (up1 (H (s3 : Int).toNat) (s2 : Int).toNat (s1 + s0)) → (inI (v6 + 1)) ∧ FX12_divide_114 d K H7 q (v0) (v2) (v3) (v4) (v5) ((v6 + 1))) : FX12_divide_173 d K H q (v0) (v2) (v3) (v4) (v5) (v6) (s0) (s1) (s2) (s3) := by
  unfold FX12_divide_173
  obtain ⟨h1, h⟩ := h
  obtain ⟨nh1, h1a, h1b, h1c, h1d, h1e⟩ := h1
  refine r_ior nh1 dX12_divide_173 h1a h1b h1c h1d h1e ?_
  obtain ⟨h2, h⟩ := h
  obtain ⟨n3, h⟩ := h
  obtain ⟨h4, h⟩ := h
  obtain ⟨h5, h⟩ := h
  obtain ⟨h6, h⟩ := h
  refine r_iast n3 dX12_divide_174 h2 h4 h5 h6 ?_
  replace h := h _ rfl
  generalize upA H (s3 : Int).toNat (up1 (H (s3 : Int).toNat) (s2 : Int).toNat (s1 + s0)) = H7 at h ⊢
  obtain ⟨h8, h⟩ := h
  refine r_iinc 5 dX12_divide_175 (by decide) rfl h8 rfl ?_
  refine r_goto (tgt := 114) dX12_divide_178 (by decide) ?_
  refine Fr.fewer [1, 2, 3, 4, 5, 0] rfl ?_
  exact h
set_option maxHeartbeats 4000000 in
set_option maxRecDepth 20000 in
theorem bX12_divide_292 {d : Nat} {K : Shp} {H : Mem} {q : Mem → Prop} {v0 v4 v5 v6 : Int} (h : (((v6 : Int) < 0 → FX12_divide_318 d K H q (v0) (v4) (v5)) ∧ (¬ (v6 : Int) < 0 → ((0 : Int) ≤ v0) ∧ (K[(v0 : Int).toNat]? = some (12, 51)) ∧ Ci mX12_step d [(2, v0), (0, v6), (0, v4)] K H (fun x5 H4 => ((0 : Int) ≤ (H (v0 : Int).toNat 5)) ∧ ∃ n7 : Nat, (K[((H (v0 : Int).toNat 5) : Int).toNat]? = some (20, n7)) ∧ ((0 : Int) ≤ v6) ∧ ((v6 : Int) < n7) ∧ ∀ H11 : Mem, H11 = upA H4 ((H (v0 : Int).toNat 5) : Int).toNat (up1 (H4 ((H (v0 : Int).toNat 5) : Int).toNat) (v6 : Int).toNat x5) → (inI (v6 + (-1))) ∧ FX12_divide_292 d K H11 q (v0) (v4) (v5) ((v6 + (-1))))))) : FX12_divide_292 d K H q (v0) (v4) (v5) (v6) := by
  unfold FX12_divide_292
  refine r_iload 3 dX12_divide_292 rfl ?_
  refine r_if_lt (tgt := 318) dX12_divide_294 (by decide) (fun c1 => ?_) (fun c1 => ?_)
  · replace h := h.1 c1
    refine Fr.fewer [0, 1, 2] rfl ?_
    exact h
  · replace h := h.2 c1
    refine r_aload_n 0 dX12_divide_297 rfl rfl ?_
    obtain ⟨h2, h⟩ := h
    obtain ⟨h3, h⟩ := h
    refine r_getf cls12 5 dX12_divide_298 (by decide) fl_RX12_19 rfl h2 h3 ?_
    refine r_iload 3 dX12_divide_301 rfl ?_
    refine r_aload_n 0 dX12_divide_303 rfl rfl ?_
    refine r_iload 3 dX12_divide_304 rfl ?_
    refine r_iload 1 dX12_divide_306 rfl ?_
    refine r_invV (M := mX12_divide) (As := [(0, v6), (0, v4)]) (st := [(0, v6), (2, (H (v0 : Int).toNat 5))]) (X := v0) (mc := 0) (ms := 0) (fc := 0) (fs := 0) h ok_X12_step cls12 im_X12_step se_X12_step ml_RX12_146 dX12_divide_308 rfl h2 h3 (Nat.le_of_ble_eq_true rfl) rfl ?_
    rintro r K1 H4 ⟨rfl, x5, rfl, h⟩ -
    show Fr mX12_divide (d + 1) 0 0 none 311 [(0, (2, v0)), (4, (0, v4)), (5, (0, v5)), (6, (0, v6))] [(0, x5), (0, v6), (2, (H (v0 : Int).toNat 5))] _ H4 _
    obtain ⟨h6, h⟩ := h
    obtain ⟨n7, h⟩ := h
    obtain ⟨h8, h⟩ := h
    obtain ⟨h9, h⟩ := h
    obtain ⟨h10, h⟩ := h
    refine r_iast n7 dX12_divide_311 h6 h8 h9 h10 ?_
    replace h := h _ rfl
    generalize upA H4 ((H (v0 : Int).toNat 5) : Int).toNat (up1 (H4 ((H (v0 : Int).toNat 5) : Int).toNat) (v6 : Int).toNat x5) = H11 at h ⊢
    obtain ⟨h12, h⟩ := h
    refine r_iinc 3 dX12_divide_312 (by decide) rfl h12 rfl ?_
    refine r_goto (tgt := 292) dX12_divide_315 (by decide) ?_
    refine Fr.fewer [1, 2, 3, 0] rfl ?_
    exact h
set_option maxHeartbeats 4000000 in
set_option maxRecDepth 20000 in
theorem bX12_divide_268 {d : Nat} {K : Shp} {H : Mem} {q : Mem → Prop} {v0 v3 v4 v5 v6 s0 s1 s2 s3 : Int} (h : (∃ n : Nat, (0 : Int) ≤ s1 ∧ (s1 : Int) % (2 ^ n : Nat) = 0 ∧ (0 : Int) ≤ s0 ∧ (s0 : Int) < (2 ^ n : Nat) ∧ inI (s1 + s0)) ∧ ((0 : Int) ≤ s3) ∧ ∃ n3 : Nat, (K[(s3 : Int).toNat]? = some (20, n3)) ∧ ((0 : Int) ≤ s2) ∧ ((s2 : Int) < n3) ∧ ∀ H7 : Mem, H7 = upA H (s3 : Int).toNat (up1 (H (s3 : Int).toNat) (s2 : Int).toNat (s1 + s0)) → (inI (v6 + (-1))) ∧ FX12_divide_215 d K H7 q (v0) (v3) (v4) (v5) ((v6 + (-1)))) : FX12_divide_268 d K H q (v0) (v3) (v4) (v5) (v6) (s0) (s1) (s2) (s3) := by
  unfold FX12_divide_268
  obtain ⟨h1, h⟩ := h
  obtain ⟨nh1, h1a, h1b, h1c, h1d, h1e⟩ := h1
  refine r_ior nh1 dX12_divide_268 h1a h1b h1c h1d h1e ?_
  obtain ⟨h2, h⟩ := h
  obtain ⟨n3, h⟩ := h
  obtain ⟨h4, h⟩ := h
  obtain ⟨h5, h⟩ := h
  obtain ⟨h6, h⟩ := h
  refine r_iast n3 dX12_divide_269 h2 h4 h5 h6 ?_
  replace h := h _ rfl
  generalize upA H (s3 : Int).toNat (up1 (H (s3 : Int).toNat) (s2 : Int).toNat (s1 + s0)) = H7 at h ⊢
  obtain ⟨h8, h⟩ := h
  refine r_iinc 4 dX12_divide_270 (by decide) rfl h8 rfl ?_
  refine r_goto (tgt := 215) dX12_divide_273 (by decide) ?_
  refine Fr.fewer [1, 2, 3, 4, 0] rfl ?_
  exact h
set_option maxHeartbeats 4000000 in
set_option maxRecDepth 20000 in
theorem bX12_divide_318 {d : Nat} {K : Shp} {H : Mem} {q : Mem → Prop} {v0 v4 v5 : Int} (h : ((0 : Int) ≤ v0) ∧ (K[(v0 : Int).toNat]? = some (12, 51)) ∧ ((((H (v0 : Int).toNat 7) : Int) ≤ 0 → FX12_divide_355 d K H q (v0) (v4) (v5) (0)) ∧ (¬ ((H (v0 : Int).toNat 7) : Int) ≤ 0 → (inI ((H (v0 : Int).toNat 7) - 1)) ∧ ((0 : Int) ≤ (H (v0 : Int).toNat 5)) ∧ ∃ n6 : Nat, (K[((H (v0 : Int).toNat 5) : Int).toNat]? = some (20, n6)) ∧ ((0 : Int) ≤ ((H (v0 : Int).toNat 7) - 1)) ∧ ((((H (v0 : Int).toNat 7) - 1) : Int) < n6) ∧ ((¬ ((H ((H (v0 : Int).toNat 5) : Int).toNat (((H (v0 : Int).toNat 7) - 1) : Int).toNat) : Int) = 0 → FX12_divide_355 d K H q (v0) (v4) (v5) (0)) ∧ (((H ((H (v0 : Int).toNat 5) : Int).toNat (((H (v0 : Int).toNat 7) - 1) : Int).toNat) : Int) = 0 → ∀ H11 : Mem, H11 = upA H (v0 : Int).toNat (up1 (H (v0 : Int).toNat) 7 ((H (v0 : Int).toNat 7) - 1)) → FX12_divide_318 d K H11 q (v0) (v4) (v5)))))) : FX12_divide_318 d K H q (v0) (v4) (v5) := by
  unfold FX12_divide_318
  refine r_aload_n 0 dX12_divide_318 rfl rfl ?_
  obtain ⟨h1, h⟩ := h
  obtain ⟨h2, h⟩ := h
  refine r_getf cls12 7 dX12_divide_319 (by decide) fl_RX12_138 rfl h1 h2 ?_
  refine r_if_le (tgt := 352) dX12_divide_322 (by decide) (fun c3 => ?_) (fun c3 => ?_)
  · replace h := h.1 c3
    refine r_iconst dX12_divide_352 (by decide) (by decide) ?_
    refine r_istore dX12_divide_353 (by decide) rfl ?_
    refine Fr.fewer [1, 2, 3, 0] rfl ?_
    exact h
  · replace h := h.2 c3
    refine r_aload_n 0 dX12_divide_325 rfl rfl ?_
    refine r_getf cls12 5 dX12_divide_326 (by decide) fl_RX12_19 rfl h1 h2 ?_
    refine r_aload_n 0 dX12_divide_329 rfl rfl ?_
    refine r_getf cls12 7 dX12_divide_330 (by decide) fl_RX12_138 rfl h1 h2 ?_
    refine r_iconst dX12_divide_333 (by decide) (by decide) ?_
    obtain ⟨h4, h⟩ := h
    refine r_isub dX12_divide_334 h4 ?_
    obtain ⟨h5, h⟩ := h
    obtain ⟨n6, h⟩ := h
    obtain ⟨h7, h⟩ := h
    obtain ⟨h8, h⟩ := h
    obtain ⟨h9, h⟩ := h
    refine r_iald n6 dX12_divide_335 h5 h7 h8 h9 ?_
    refine r_if_ne (tgt := 352) dX12_divide_336 (by decide) (fun c10 => ?_) (fun c10 => ?_)
    · replace h := h.1 c10
      refine r_iconst dX12_divide_352 (by decide) (by decide) ?_
      refine r_istore dX12_divide_353 (by decide) rfl ?_
      refine Fr.fewer [1, 2, 3, 0] rfl ?_
      exact h
    · replace h := h.2 c10
      refine r_aload_n 0 dX12_divide_339 rfl rfl ?_
      refine r_dup dX12_divide_340 (show (2 : Nat) ≠ 1 by decide) ?_
      refine r_getf cls12 7 dX12_divide_341 (by decide) fl_RX12_138 rfl h1 h2 ?_
      refine r_iconst dX12_divide_344 (by decide) (by decide) ?_
      refine r_isub dX12_divide_345 h4 ?_
      refine r_putf cls12 7 dX12_divide_346 (by decide) rfl fl_RX12_138 rfl h1 h2 (fun o => o) ?_
      replace h := h _ rfl
      generalize upA H (v0 : Int).toNat (up1 (H (v0 : Int).toNat) 7 ((H (v0 : Int).toNat 7) - 1)) = H11 at h ⊢
      refine r_goto (tgt := 318) dX12_divide_349 (by decide) ?_
      refine Fr.fewer [0, 1, 2] rfl ?_
      exact h
set_option maxHeartbeats 4000000 in
set_option maxRecDepth 20000 in
theorem bX12_divide_355 {d : Nat} {K : Shp} {H : Mem} {q : Mem → Prop} {v0 v4 v5 v6 : Int} (h : ((¬ (v6 : Int) < v4 → ((0 : Int) ≤ v0) ∧ (K[(v0 : Int).toNat]? = some (12, 51)) ∧ ∀ H4 : Mem, H4 = upA H (v0 : Int).toNat (up1 (H (v0 : Int).toNat) 6 v4) → FX12_divide_428 d K H4 q (v0)) ∧ ((v6 : Int) < v4 → ((0 : Int) ≤ v0) ∧ (K[(v0 : Int).toNat]? = some (12, 51)) ∧ ((0 : Int) ≤ (H (v0 : Int).toNat 3)) ∧ ∃ n8 : Nat, (K[((H (v0 : Int).toNat 3) : Int).toNat]? = some (20, n8)) ∧ ((0 : Int) ≤ v6) ∧ ((v6 : Int) < n8) ∧ ((0 : Int) ≤ v5) ∧ ((v5 : Int) < 32) ∧ (inI (v6 + 1)) ∧ ((¬ ((v6 + 1) : Int) < v4 → FX12_divide_414 d K H q (v0) (v4) (v5) (v6) (0) (((H ((H (v0 : Int).toNat 3) : Int).toNat (v6 : Int).toNat) / (2 ^ (v5 : Int).toNat : Nat))) (v6) ((H (v0 : Int).toNat 3))) ∧ (((v6 + 1) : Int) < v4 → (((v5 : Int) ≤ 0 → FX12_divide_414 d K H q (v0) (v4) (v5) (v6) (0) (((H ((H (v0 : Int).toNat 3) : Int).toNat (v6 : Int).toNat) / (2 ^ (v5 : Int).toNat : Nat))) (v6) ((H (v0 : Int).toNat 3))) ∧ (¬ (v5 : Int) ≤ 0 → ((0 : Int) ≤ (v6 + 1)) ∧ (((v6 + 1) : Int) < n8) ∧ (inI (30 - v5)) ∧ ((0 : Int) ≤ (30 - v5)) ∧ (((30 - v5) : Int) < 32) ∧ FX12_divide_414 d K H q (v0) (v4) (v5) (v6) (((((H ((H (v0 : Int).toNat 3) : Int).toNat ((v6 + 1) : Int).toNat) * (2 ^ ((30 - v5) : Int).toNat : Nat)).bmod 4294967296) % 1073741824)) (((H ((H (v0 : Int).toNat 3) : Int).toNat (v6 : Int).toNat) / (2 ^ (v5 : Int).toNat : Nat))) (v6) ((H (v0 : Int).toNat 3))))))))) : FX12_divide_355 d K H q (v0) (v4) (v5) (v6) := by
  unfold FX12_divide_355
  refine r_iload 3 dX12_divide_355 rfl ?_
  refine r_iload 1 dX12_divide_357 rfl ?_
  refine r_icmp_ge (tgt := 422) dX12_divide_359 (by decide) (fun c1 => ?_) (fun c1 => ?_)
  · replace h := h.1 c1
    refine r_aload_n 0 dX12_divide_422 rfl rfl ?_
    refine r_iload 1 dX12_divide_423 rfl ?_
    obtain ⟨h2, h⟩ := h
    obtain ⟨h3, h⟩ := h
    refine r_putf cls12 6 dX12_divide_425 (by decide) rfl fl_RX12_135 rfl h2 h3 (fun o => o) ?_
    replace h := h _ rfl
    generalize upA H (v0 : Int).toNat (up1 (H (v0 : Int).toNat) 6 v4) = H4 at h ⊢
    refine Fr.fewer [0] rfl ?_
    exact h
  · replace h := h.2 c1
    refine r_aload_n 0 dX12_divide_362 rfl rfl ?_
    obtain ⟨h5, h⟩ := h
    obtain ⟨h6, h⟩ := h
    refine r_getf cls12 3 dX12_divide_363 (by decide) fl_RX12_13 rfl h5 h6 ?_
    refine r_iload 3 dX12_divide_366 rfl ?_
    refine r_aload_n 0 dX12_divide_368 rfl rfl ?_
    refine r_getf cls12 3 dX12_divide_369 (by decide) fl_RX12_13 rfl h5 h6 ?_
    refine r_iload 3 dX12_divide_372 rfl ?_
    obtain ⟨h7, h⟩ := h
    obtain ⟨n8, h⟩ := h
    obtain ⟨h9, h⟩ := h
    obtain ⟨h10, h⟩ := h
    obtain ⟨h11, h⟩ := h
    refine r_iald n8 dX12_divide_374 h7 h9 h10 h11 ?_
    refine r_iload 2 dX12_divide_375 rfl ?_
    obtain ⟨h12, h⟩ := h
    obtain ⟨h13, h⟩ := h
    refine r_ishr dX12_divide_377 h12 h13 ?_
    refine r_iload 3 dX12_divide_378 rfl ?_
    refine r_iconst dX12_divide_380 (by decide) (by decide) ?_
    obtain ⟨h14, h⟩ := h
    refine r_iadd dX12_divide_381 h14 ?_
    refine r_iload 1 dX12_divide_382 rfl ?_
    refine r_icmp_ge (tgt := 413) dX12_divide_384 (by decide) (fun c15 => ?_) (fun c15 => ?_)
    · replace h := h.1 c15
      refine r_iconst dX12_divide_413 (by decide) (by decide) ?_
      refine Fr.fewer [0, 1, 2, 3] rfl ?_
      exact h
    · replace h := h.2 c15
      refine r_iload 2 dX12_divide_387 rfl ?_
      refine r_if_le (tgt := 413) dX12_divide_389 (by decide) (fun c16 => ?_) (fun c16 => ?_)
      · replace h := h.1 c16
        refine r_iconst dX12_divide_413 (by decide) (by decide) ?_
        refine Fr.fewer [0, 1, 2, 3] rfl ?_
        exact h
      · replace h := h.2 c16
        refine r_aload_n 0 dX12_divide_392 rfl rfl ?_
        refine r_getf cls12 3 dX12_divide_393 (by decide) fl_RX12_13 rfl h5 h6 ?_
        refine r_iload 3 dX12_divide_396 rfl ?_
        refine r_iconst dX12_divide_398 (by decide) (by decide) ?_
        refine r_iadd dX12_divide_399 h14 ?_
        obtain ⟨h17, h⟩ := h
        obtain ⟨h18, h⟩ := h
        refine r_iald n8 dX12_divide_400 h7 h9 h17 h18 ?_
        refine r_bipush dX12_divide_401 (by decide) (by decide) ?_
        refine r_iload 2 dX12_divide_403 rfl ?_
        obtain ⟨h19, h⟩ := h
        refine r_isub dX12_divide_405 h19 ?_
        obtain ⟨h20, h⟩ := h
        obtain ⟨h21, h⟩ := h
        refine r_ishl dX12_divide_406 h20 h21 ?_
        refine r_ldc (x := 1073741823) dX12_divide_407 kc_RX12_121 (by decide) (by decide) ?_
        refine r_iand30 dX12_divide_409 ?_
        refine r_goto (tgt := 414) dX12_divide_410 (by decide) ?_
        refine Fr.fewer [0, 1, 2, 3] rfl ?_
        exact h
set_option maxHeartbeats 4000000 in
set_option maxRecDepth 20000 in
theorem bX12_divide_428 {d : Nat} {K : Shp} {H : Mem} {q : Mem → Prop} {v0 : Int} (h : ((0 : Int) ≤ v0) ∧ (K[(v0 : Int).toNat]? = some (12, 51)) ∧ ((((H (v0 : Int).toNat 6) : Int) ≤ 0 → q H) ∧ (¬ ((H (v0 : Int).toNat 6) : Int) ≤ 0 → (inI ((H (v0 : Int).toNat 6) - 1)) ∧ ((0 : Int) ≤ (H (v0 : Int).toNat 3)) ∧ ∃ n6 : Nat, (K[((H (v0 : Int).toNat 3) : Int).toNat]? = some (20, n6)) ∧ ((0 : Int) ≤ ((H (v0 : Int).toNat 6) - 1)) ∧ ((((H (v0 : Int).toNat 6) - 1) : Int) < n6) ∧ ((¬ ((H ((H (v0 : Int).toNat 3) : Int).toNat (((H (v0 : Int).toNat 6) - 1) : Int).toNat) : Int) = 0 → q H) ∧ (((H ((H (v0 : Int).toNat 3) : Int).toNat (((H (v0 : Int).toNat 6) - 1) : Int).toNat) : Int) = 0 → ∀ H11 : Mem, H11 = upA H (v0 : Int).toNat (up1 (H (v0 : Int).toNat) 6 ((H (v0 : Int).toNat 6) - 1)) → FX12_divide_428 d K H11 q (v0)))))) : FX12_divide_428 d K H q (v0) := by
  unfold FX12_divide_428
  refine r_aload_n 0 dX12_divide_428 rfl rfl ?_
  obtain ⟨h1, h⟩ := h
  obtain ⟨h2, h⟩ := h
  refine r_getf cls12 6 dX12_divide_429 (by decide) fl_RX12_135 rfl h1 h2 ?_
  refine r_if_le (tgt := 462) dX12_divide_432 (by decide) (fun c3 => ?_) (fun c3 => ?_)
  · replace h := h.1 c3
    exact r_vret dX12_divide_462 rfl ⟨rfl, rfl, h⟩
  · replace h := h.2 c3
    refine r_aload_n 0 dX12_divide_435 rfl rfl ?_
    refine r_getf cls12 3 dX12_divide_436 (by decide) fl_RX12_13 rfl h1 h2 ?_
    refine r_aload_n 0 dX12_divide_439 rfl rfl ?_
    refine r_getf cls12 6 dX12_divide_440 (by decide) fl_RX12_135 rfl h1 h2 ?_
    refine r_iconst dX12_divide_443 (by decide) (by decide) ?_
    obtain ⟨h4, h⟩ := h
    refine r_isub dX12_divide_444 h4 ?_
    obtain ⟨h5, h⟩ := h
    obtain ⟨n6, h⟩ := h
    obtain ⟨h7, h⟩ := h
    obtain ⟨h8, h⟩ := h
    obtain ⟨h9, h⟩ := h
    refine r_iald n6 dX12_divide_445 h5 h7 h8 h9 ?_
    refine r_if_ne (tgt := 462) dX12_divide_446 (by decide) (fun c10 => ?_) (fun c10 => ?_)
    · replace h := h.1 c10
      exact r_vret dX12_divide_462 rfl ⟨rfl, rfl, h⟩
    · replace h := h.2 c10
      refine r_aload_n 0 dX12_divide_449 rfl rfl ?_
      refine r_dup dX12_divide_450 (show (2 : Nat) ≠ 1 by decide) ?_
      refine r_getf cls12 6 dX12_divide_451 (by decide) fl_RX12_135 rfl h1 h2 ?_
      refine r_iconst dX12_divide_454 (by decide) (by decide) ?_
      refine r_isub dX12_divide_455 h4 ?_
      refine r_putf cls12 6 dX12_divide_456 (by decide) rfl fl_RX12_135 rfl h1 h2 (fun o => o) ?_
      replace h := h _ rfl
      generalize upA H (v0 : Int).toNat (up1 (H (v0 : Int).toNat) 6 ((H (v0 : Int).toNat 6) - 1)) = H11 at h ⊢
      refine r_goto (tgt := 428) dX12_divide_459 (by decide) ?_
      refine Fr.fewer [0] rfl ?_
      exact h
set_option maxHeartbeats 4000000 in
set_option maxRecDepth 20000 in
theorem bX12_divide_414 {d : Nat} {K : Shp} {H : Mem} {q : Mem → Prop} {v0 v4 v5 v6 s0 s1 s2 s3 : Int} (h : (∃ n : Nat, (0 : Int) ≤ s1 ∧ (s1 : Int) % (2 ^ n : Nat) = 0 ∧ (0 : Int) ≤ s0 ∧ (s0 : Int) < (2 ^ n : Nat) ∧ inI (s1 + s0)) ∧ ((0 : Int) ≤ s3) ∧ ∃ n3 : Nat, (K[(s3 : Int).toNat]? = some (20, n3)) ∧ ((0 : Int) ≤ s2) ∧ ((s2 : Int) < n3) ∧ ∀ H7 : Mem, H7 = upA H (s3 : Int).toNat (up1 (H (s3 : Int).toNat) (s2 : Int).toNat (s1 + s0)) → (inI (v6 + 1)) ∧ FX12_divide_355 d K H7 q (v0) (v4) (v5) ((v6 + 1))) : FX12_divide_414 d K H q (v0) (v4) (v5) (v6) (s0) (s1) (s2) (s3) := by
  unfold FX12_divide_414
  obtain ⟨h1, h⟩ := h
  obtain ⟨nh1, h1a, h1b, h1c, h1d, h1e⟩ := h1
  refine r_ior nh1 dX12_divide_414 h1a h1b h1c h1d h1e ?_
  obtain ⟨h2, h⟩ := h
  obtain ⟨n3, h⟩ := h
  obtain ⟨h4, h⟩ := h
  obtain ⟨h5, h⟩ := h
  obtain ⟨h6, h⟩ := h
  refine r_iast n3 dX12_divide_415 h2 h4 h5 h6 ?_
  replace h := h _ rfl
  generalize upA H (s3 : Int).toNat (up1 (H (s3 : Int).toNat) (s2 : Int).toNat (s1 + s0)) = H7 at h ⊢
  obtain ⟨h8, h⟩ := h
  refine r_iinc 3 dX12_divide_416 (by decide) rfl h8 rfl ?_
  refine r_goto (tgt := 355) dX12_divide_419 (by decide) ?_
  refine Fr.fewer [1, 2, 3, 0] rfl ?_
  exact h
set_option maxHeartbeats 4000000 in
set_option maxRecDepth 20000 in
theorem eX12_divide {d : Nat} {K : Shp} {H : Mem} {q : Mem → Prop} {v0 v1 v2 : Int} (h : inI v1 → inI v2 → Rng K H → FX12_divide_0 d K H q v0 v1 v2) : Cv mX12_divide (d + 1) [(2, v0), (0, v1), (0, v2)] K H q := Call.of rfl (Nat.le_of_ble_eq_true rfl) (fun o r => h (o (0, v1) (by simp)) (o (0, v2) (by simp)) r)
