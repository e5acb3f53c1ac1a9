/-! printed by gen/emit.py: what a walk from each cut point asks -/
def FJ7_fill_d0a16_0 (d : Nat) (K : Shp) (H : Mem) (q : Mem → Prop) (v0 : Int) (v1 : Int) : Prop := Fr mJ7_fill_d0a16 d 0 0 none 0 [(0, (2, v0)), (1, (1, v1))] [] K H (qv K q)
def FJ7_fill_d0a16_6 (d : Nat) (K : Shp) (H : Mem) (q : Mem → Prop) (v0 : Int) (v1 : Int) (v3 : Int) (v4 : Int) : Prop := Fr mJ7_fill_d0a16 d 0 0 none 6 [(0, (2, v0)), (1, (1, v1)), (3, (0, v3)), (4, (0, v4))] [] K H (qv K q)
set_option maxHeartbeats 4000000 in
set_option maxRecDepth 20000 in
theorem bJ7_fill_d0a16_0 {d : Nat} {K : Shp} {H : Mem} {q : Mem → Prop} {v0 v1 : Int} (h : ((0 : Int) ≤ v0) ∧ ∃ n2 : Nat, (K[(v0 : Int).toNat]? = some (21, n2)) ∧ (n2 < 2147483648) ∧ FJ7_fill_d0a16_6 d K H q (v0) (v1) (0) ((n2 : Int))) : FJ7_fill_d0a16_0 d K H q (v0) (v1) := by
  unfold FJ7_fill_d0a16_0
  refine r_iconst dJ7_fill_d0a16_0 (by decide) (by decide) ?_
  refine r_istore_n dJ7_fill_d0a16_1 rfl (by decide) rfl ?_
  refine r_aload_n 1 dJ7_fill_d0a16_2 rfl rfl ?_
  obtain ⟨h1, h⟩ := h
  obtain ⟨n2, h⟩ := h
  obtain ⟨h3, h⟩ := h
  obtain ⟨h4, h⟩ := h
  refine r_alen 21 n2 0 (ty := .int) dJ7_fill_d0a16_3 h1 h3 (by decide) h4 ?_
  refine r_istore dJ7_fill_d0a16_4 (by decide) rfl ?_
  refine Fr.fewer [2, 3, 1, 0] rfl ?_
  exact h
set_option maxHeartbeats 4000000 in
set_option maxRecDepth 20000 in
theorem bJ7_fill_d0a16_6 {d : Nat} {K : Shp} {H : Mem} {q : Mem → Prop} {v0 v1 v3 v4 : Int} (h : ((¬ (v3 : Int) < v4 → q H) ∧ ((v3 : Int) < v4 → ((0 : Int) ≤ v0) ∧ ∃ n3 : Nat, (K[(v0 : Int).toNat]? = some (21, n3)) ∧ ((0 : Int) ≤ v3) ∧ ((v3 : Int) < n3) ∧ ∀ H7 : Mem, H7 = upA H (v0 : Int).toNat (up1 (H (v0 : Int).toNat) (v3 : Int).toNat v1) → (inI (v3 + 1)) ∧ FJ7_fill_d0a16_6 d K H7 q (v0) (v1) ((v3 + 1)) (v4)))) : FJ7_fill_d0a16_6 d K H q (v0) (v1) (v3) (v4) := by
  unfold FJ7_fill_d0a16_6
  refine r_iload_n 2 dJ7_fill_d0a16_6 rfl rfl ?_
  refine r_iload 3 dJ7_fill_d0a16_7 rfl ?_
  refine r_icmp_ge (tgt := 22) dJ7_fill_d0a16_9 (by decide) (fun c1 => ?_) (fun c1 => ?_)
  · replace h := h.1 c1
    exact r_vret dJ7_fill_d0a16_22 rfl ⟨rfl, rfl, h⟩
  · replace h := h.2 c1
    refine r_aload_n 0 dJ7_fill_d0a16_12 rfl rfl ?_
    refine r_iload_n 2 dJ7_fill_d0a16_13 rfl rfl ?_
    refine r_lload_n 1 dJ7_fill_d0a16_14 rfl rfl ?_
    obtain ⟨h2, h⟩ := h
    obtain ⟨n3, h⟩ := h
    obtain ⟨h4, h⟩ := h
    obtain ⟨h5, h⟩ := h
    obtain ⟨h6, h⟩ := h
    refine r_last n3 dJ7_fill_d0a16_15 h2 h4 h5 h6 ?_
    replace h := h _ rfl
    generalize upA H (v0 : Int).toNat (up1 (H (v0 : Int).toNat) (v3 : Int).toNat v1) = H7 at h ⊢
    obtain ⟨h8, h⟩ := h
    refine r_iinc 2 dJ7_fill_d0a16_16 (by decide) rfl h8 rfl ?_
    refine r_goto (tgt := 6) dJ7_fill_d0a16_19 (by decide) ?_
    refine Fr.fewer [1, 2, 0, 3] rfl ?_
    exact h
set_option maxHeartbeats 4000000 in
set_option maxRecDepth 20000 in
theorem eJ7_fill_d0a16 {d : Nat} {K : Shp} {H : Mem} {q : Mem → Prop} {v0 v1 : Int} (h : inL v1 → Rng K H → FJ7_fill_d0a16_0 d K H q v0 v1) : Cv mJ7_fill_d0a16 d [(2, v0), (1, v1)] K H q := Call.of rfl (Nat.le_of_ble_eq_true rfl) (fun o r => h (o (1, v1) (by simp)) r)
def FJ7_fill_53178_0 (d : Nat) (K : Shp) (H : Mem) (q : Mem → Prop) (v0 : Int) (v1 : Int) : Prop := Fr mJ7_fill_53178 d 0 0 none 0 [(0, (2, v0)), (1, (0, v1))] [] K H (qv K q)
def FJ7_fill_53178_5 (d : Nat) (K : Shp) (H : Mem) (q : Mem → Prop) (v0 : Int) (v1 : Int) (v2 : Int) (v3 : Int) : Prop := Fr mJ7_fill_53178 d 0 0 none 5 [(0, (2, v0)), (1, (0, v1)), (2, (0, v2)), (3, (0, v3))] [] K H (qv K q)
set_option maxHeartbeats 4000000 in
set_option maxRecDepth 20000 in
theorem bJ7_fill_53178_0 {d : Nat} {K : Shp} {H : Mem} {q : Mem → Prop} {v0 v1 : Int} (h : ((0 : Int) ≤ v0) ∧ ∃ n2 : Nat, (K[(v0 : Int).toNat]? = some (20, n2)) ∧ (n2 < 2147483648) ∧ FJ7_fill_53178_5 d K H q (v0) (v1) (0) ((n2 : Int))) : FJ7_fill_53178_0 d K H q (v0) (v1) := by
  unfold FJ7_fill_53178_0
  refine r_iconst dJ7_fill_53178_0 (by decide) (by decide) ?_
  refine r_istore_n dJ7_fill_53178_1 rfl (by decide) rfl ?_
  refine r_aload_n 1 dJ7_fill_53178_2 rfl rfl ?_
  obtain ⟨h1, h⟩ := h
  obtain ⟨n2, h⟩ := h
  obtain ⟨h3, h⟩ := h
  obtain ⟨h4, h⟩ := h
  refine r_alen 20 n2 0 (ty := .int) dJ7_fill_53178_3 h1 h3 (by decide) h4 ?_
  refine r_istore_n dJ7_fill_53178_4 rfl (by decide) rfl ?_
  refine Fr.fewer [2, 3, 1, 0] rfl ?_
  exact h
set_option maxHeartbeats 4000000 in
set_option maxRecDepth 20000 in
theorem bJ7_fill_53178_5 {d : Nat} {K : Shp} {H : Mem} {q : Mem → Prop} {v0 v1 v2 v3 : Int} (h : ((¬ (v2 : Int) < v3 → q H) ∧ ((v2 : Int) < v3 → ((0 : Int) ≤ v0) ∧ ∃ n3 : Nat, (K[(v0 : Int).toNat]? = some (20, n3)) ∧ ((0 : Int) ≤ v2) ∧ ((v2 : Int) < n3) ∧ ∀ H7 : Mem, H7 = upA H (v0 : Int).toNat (up1 (H (v0 : Int).toNat) (v2 : Int).toNat v1) → (inI (v2 + 1)) ∧ FJ7_fill_53178_5 d K H7 q (v0) (v1) ((v2 + 1)) (v3)))) : FJ7_fill_53178_5 d K H q (v0) (v1) (v2) (v3) := by
  unfold FJ7_fill_53178_5
  refine r_iload_n 2 dJ7_fill_53178_5 rfl rfl ?_
  refine r_iload_n 3 dJ7_fill_53178_6 rfl rfl ?_
  refine r_icmp_ge (tgt := 20) dJ7_fill_53178_7 (by decide) (fun c1 => ?_) (fun c1 => ?_)
  · replace h := h.1 c1
    exact r_vret dJ7_fill_53178_20 rfl ⟨rfl, rfl, h⟩
  · replace h := h.2 c1
    refine r_aload_n 0 dJ7_fill_53178_10 rfl rfl ?_
    refine r_iload_n 2 dJ7_fill_53178_11 rfl rfl ?_
    refine r_iload_n 1 dJ7_fill_53178_12 rfl rfl ?_
    obtain ⟨h2, h⟩ := h
    obtain ⟨n3, h⟩ := h
    obtain ⟨h4, h⟩ := h
    obtain ⟨h5, h⟩ := h
    obtain ⟨h6, h⟩ := h
    refine r_iast n3 dJ7_fill_53178_13 h2 h4 h5 h6 ?_
    replace h := h _ rfl
    generalize upA H (v0 : Int).toNat (up1 (H (v0 : Int).toNat) (v2 : Int).toNat v1) = H7 at h ⊢
    obtain ⟨h8, h⟩ := h
    refine r_iinc 2 dJ7_fill_53178_14 (by decide) rfl h8 rfl ?_
    refine r_goto (tgt := 5) dJ7_fill_53178_17 (by decide) ?_
    refine Fr.fewer [1, 2, 0, 3] rfl ?_
    exact h
set_option maxHeartbeats 4000000 in
set_option maxRecDepth 20000 in
theorem eJ7_fill_53178 {d : Nat} {K : Shp} {H : Mem} {q : Mem → Prop} {v0 v1 : Int} (h : inI v1 → Rng K H → FJ7_fill_53178_0 d K H q v0 v1) : Cv mJ7_fill_53178 d [(2, v0), (0, v1)] K H q := Call.of rfl (Nat.le_of_ble_eq_true rfl) (fun o r => h (o (0, v1) (by simp)) r)
