/-! printed by gen/emit.py: what a walk from each cut point asks -/
def FX11_commonDivisor_0 (d : Nat) (K : Shp) (H : Mem) (q : Int → Mem → Prop) (v0 : Int) (v2 : Int) : Prop := Fr mX11_commonDivisor (d + 1) 0 0 none 0 [(0, (1, v0)), (2, (1, v2))] [] K H (ql K q)
def FX11_commonDivisor_15 (d : Nat) (K : Shp) (H : Mem) (q : Int → Mem → Prop) (v4 : Int) (v6 : Int) (v8 : Int) : Prop := Fr mX11_commonDivisor (d + 1) 0 0 none 15 [(4, (1, v4)), (6, (1, v6)), (8, (0, v8))] [] K H (ql K q)
set_option maxHeartbeats 4000000 in
set_option maxRecDepth 20000 in
theorem bX11_commonDivisor_0 {d : Nat} {K : Shp} {H : Mem} {q : Int → Mem → Prop} {v0 v2 : Int} (h : (inL (max v0 (-v0))) ∧ (inL (max v2 (-v2))) ∧ FX11_commonDivisor_15 d K H q ((max v0 (-v0))) ((max v2 (-v2))) (0)) : FX11_commonDivisor_0 d K H q (v0) (v2) := by
  unfold FX11_commonDivisor_0
  refine r_lload_n 0 dX11_commonDivisor_0 rfl rfl ?_
  obtain ⟨h1, h⟩ := h
  refine r_absl dX11_commonDivisor_1 ml_RX11_272 (Nat.le_of_ble_eq_true rfl) h1 ?_
  refine r_lstore dX11_commonDivisor_4 (by decide) rfl ?_
  refine r_lload_n 2 dX11_commonDivisor_6 rfl rfl ?_
  obtain ⟨h2, h⟩ := h
  refine r_absl dX11_commonDivisor_7 ml_RX11_272 (Nat.le_of_ble_eq_true rfl) h2 ?_
  refine r_lstore dX11_commonDivisor_10 (by decide) rfl ?_
  refine r_iconst dX11_commonDivisor_12 (by decide) (by decide) ?_
  refine r_istore dX11_commonDivisor_13 (by decide) rfl ?_
  refine Fr.fewer [2, 1, 0] rfl ?_
  exact h
set_option maxHeartbeats 4000000 in
set_option maxRecDepth 20000 in
theorem bX11_commonDivisor_15 {d : Nat} {K : Shp} {H : Mem} {q : Int → Mem → Prop} {v4 v6 v8 : Int} (h : ((¬ (v8 : Int) < 100 → q v4 H) ∧ ((v8 : Int) < 100 → (((v6 : Int) = 0 → q v4 H) ∧ (¬ (v6 : Int) = 0 → ((v6 : Int) ≠ 0) ∧ (inL (Int.tmod v4 v6)) ∧ (inI (v8 + 1)) ∧ FX11_commonDivisor_15 d K H q (v6) ((Int.tmod v4 v6)) ((v8 + 1))))))) : FX11_commonDivisor_15 d K H q (v4) (v6) (v8) := by
  unfold FX11_commonDivisor_15
  refine r_iload 2 dX11_commonDivisor_15 rfl ?_
  refine r_bipush dX11_commonDivisor_17 (by decide) (by decide) ?_
  refine r_icmp_ge (tgt := 50) dX11_commonDivisor_19 (by decide) (fun c1 => ?_) (fun c1 => ?_)
  · replace h := h.1 c1
    refine r_lload 0 dX11_commonDivisor_50 rfl ?_
    exact r_lret dX11_commonDivisor_52 rfl ⟨rfl, _, rfl, h⟩
  · replace h := h.2 c1
    refine r_lload 1 dX11_commonDivisor_22 rfl ?_
    refine r_lconst0 dX11_commonDivisor_24 ?_
    refine r_lcmp dX11_commonDivisor_25 ?_
    refine r_if_eq (tgt := 50) dX11_commonDivisor_26 (by decide) (fun c2 => ?_) (fun c2 => ?_)
    · replace h := h.1 (cmpL_eq.mp c2)
      refine r_lload 0 dX11_commonDivisor_50 rfl ?_
      exact r_lret dX11_commonDivisor_52 rfl ⟨rfl, _, rfl, h⟩
    · replace h := h.2 (fun q => c2 (cmpL_eq.mpr q))
      refine r_lload 0 dX11_commonDivisor_29 rfl ?_
      refine r_lload 1 dX11_commonDivisor_31 rfl ?_
      obtain ⟨h3, h⟩ := h
      obtain ⟨h4, h⟩ := h
      refine r_lrem dX11_commonDivisor_33 h3 h4 ?_
      refine r_lstore dX11_commonDivisor_34 (by decide) rfl ?_
      refine r_lload 2 dX11_commonDivisor_36 rfl ?_
      refine r_lstore dX11_commonDivisor_38 (by decide) rfl ?_
      refine r_lload 1 dX11_commonDivisor_40 rfl ?_
      refine r_lstore dX11_commonDivisor_42 (by decide) rfl ?_
      obtain ⟨h5, h⟩ := h
      refine r_iinc 3 dX11_commonDivisor_44 (by decide) rfl h5 rfl ?_
      refine r_goto (tgt := 15) dX11_commonDivisor_47 (by decide) ?_
      refine Fr.fewer [2, 1, 0] rfl ?_
      exact h
set_option maxHeartbeats 4000000 in
set_option maxRecDepth 20000 in
theorem eX11_commonDivisor {d : Nat} {K : Shp} {H : Mem} {q : Int → Mem → Prop} {v0 v2 : Int} (h : inL v0 → inL v2 → Rng K H → FX11_commonDivisor_0 d K H q v0 v2) : Cl mX11_commonDivisor (d + 1) [(1, v0), (1, v2)] K H q := Call.of rfl (Nat.le_of_ble_eq_true rfl) (fun o r => h (o (1, v0) (by simp)) (o (1, v2) (by simp)) r)
