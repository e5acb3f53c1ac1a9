/-! printed by gen/emit.py: what a walk from each cut point asks -/
def FX12_choose_0 (d : Nat) (K : Shp) (H : Mem) (q : Int → Mem → Prop) (v0 : Int) (v1 : Int) : Prop := Fr mX12_choose (d + 1) 0 0 none 0 [(0, (2, v0)), (1, (0, v1))] [] K H (qi K q)
def FX12_choose_17 (d : Nat) (K : Shp) (H : Mem) (q : Int → Mem → Prop) (v0 : Int) (v1 : Int) (v2 : Int) (v3 : Int) (v4 : Int) : Prop := Fr mX12_choose (d + 1) 0 0 none 17 [(0, (2, v0)), (1, (0, v1)), (2, (0, v2)), (3, (0, v3)), (4, (0, v4))] [] K H (qi K q)
def FX12_choose_41 (d : Nat) (K : Shp) (H : Mem) (q : Int → Mem → Prop) (v0 : Int) (v1 : Int) (v2 : Int) (v3 : Int) (v4 : Int) : Prop := Fr mX12_choose (d + 1) 0 0 none 41 [(0, (2, v0)), (1, (0, v1)), (2, (0, v2)), (3, (0, v3)), (4, (0, v4))] [] K H (qi K q)
def FX12_choose_65 (d : Nat) (K : Shp) (H : Mem) (q : Int → Mem → Prop) (v0 : Int) (v1 : Int) (v2 : Int) (v3 : Int) (v4 : Int) : Prop := Fr mX12_choose (d + 1) 0 0 none 65 [(0, (2, v0)), (1, (0, v1)), (2, (0, v2)), (3, (0, v3)), (4, (0, v4))] [] K H (qi K q)
def FX12_choose_83 (d : Nat) (K : Shp) (H : Mem) (q : Int → Mem → Prop) (v0 : Int) (v1 : Int) (v2 : Int) (v3 : Int) (v4 : Int) (v5 : Int) (v6 : Int) (v7 : Int) : Prop := Fr mX12_choose (d + 1) 0 0 none 83 [(0, (2, v0)), (1, (0, v1)), (2, (0, v2)), (3, (0, v3)), (4, (0, v4)), (5, (0, v5)), (6, (0, v6)), (7, (0, v7))] [] K H (qi K q)
def FX12_choose_179 (d : Nat) (K : Shp) (H : Mem) (q : Int → Mem → Prop) (v0 : Int) (v1 : Int) (v2 : Int) (v3 : Int) (v4 : Int) (v6 : Int) : Prop := Fr mX12_choose (d + 1) 0 0 none 179 [(0, (2, v0)), (1, (0, v1)), (2, (0, v2)), (3, (0, v3)), (4, (0, v4)), (6, (0, v6))] [] K H (qi K q)
def FX12_choose_247 (d : Nat) (K : Shp) (H : Mem) (q : Int → Mem → Prop) (v0 : Int) (v1 : Int) (v2 : Int) (v3 : Int) (v4 : Int) : Prop := Fr mX12_choose (d + 1) 0 0 none 247 [(0, (2, v0)), (1, (0, v1)), (2, (0, v2)), (3, (0, v3)), (4, (0, v4))] [] K H (qi K q)
def FX12_choose_134 (d : Nat) (K : Shp) (H : Mem) (q : Int → Mem → Prop) (v0 : Int) (v1 : Int) (v2 : Int) (v3 : Int) (v4 : Int) (v5 : Int) (v6 : Int) (v7 : Int) (v8 : Int) (s0 : Int) (s1 : Int) (s2 : Int) : Prop := Fr mX12_choose (d + 1) 0 0 none 134 [(0, (2, v0)), (1, (0, v1)), (2, (0, v2)), (3, (0, v3)), (4, (0, v4)), (5, (0, v5)), (6, (0, v6)), (7, (0, v7)), (8, (0, v8))] [(0, s0), (0, s1), (2, s2)] K H (qi K q)
def FX12_choose_207 (d : Nat) (K : Shp) (H : Mem) (q : Int → Mem → Prop) (v0 : Int) (v1 : Int) (v2 : Int) (v3 : Int) (v4 : Int) (v5 : Int) (v7 : Int) : Prop := Fr mX12_choose (d + 1) 0 0 none 207 [(0, (2, v0)), (1, (0, v1)), (2, (0, v2)), (3, (0, v3)), (4, (0, v4)), (5, (0, v5)), (7, (0, v7))] [] K H (qi K q)
def FX12_choose_153 (d : Nat) (K : Shp) (H : Mem) (q : Int → Mem → Prop) (v0 : Int) (v1 : Int) (v2 : Int) (v3 : Int) (v4 : Int) (v5 : Int) (v7 : Int) (s0 : Int) (s1 : Int) : Prop := Fr mX12_choose (d + 1) 0 0 none 153 [(0, (2, v0)), (1, (0, v1)), (2, (0, v2)), (3, (0, v3)), (4, (0, v4)), (5, (0, v5)), (7, (0, v7))] [(0, s0), (0, s1)] K H (qi K q)
set_option maxHeartbeats 4000000 in
set_option maxRecDepth 20000 in
theorem bX12_choose_0 {d : Nat} {K : Shp} {H : Mem} {q : Int → Mem → Prop} {v0 v1 : Int} (h : ((0 : Int) ≤ v0) ∧ (K[(v0 : Int).toNat]? = some (12, 51)) ∧ ∀ H3 : Mem, H3 = upA H (v0 : Int).toNat (up1 (H (v0 : Int).toNat) 30 (-1)) → ((0 : Int) ≤ (H3 (v0 : Int).toNat 13)) ∧ ∃ n5 : Nat, (K[((H3 (v0 : Int).toNat 13) : Int).toNat]? = some (20, n5)) ∧ ((0 : Int) ≤ v1) ∧ ((v1 : Int) < n5) ∧ FX12_choose_17 d K H3 q (v0) (v1) ((H3 ((H3 (v0 : Int).toNat 13) : Int).toNat (v1 : Int).toNat)) (1) (0)) : FX12_choose_0 d K H q (v0) (v1) := by
  unfold FX12_choose_0
  refine r_aload_n 0 dX12_choose_0 rfl rfl ?_
  refine r_iconst dX12_choose_1 (by decide) (by decide) ?_
  obtain ⟨h1, h⟩ := h
  obtain ⟨h2, h⟩ := h
  refine r_putf cls12 30 dX12_choose_2 (by decide) rfl fl_RX12_255 rfl h1 h2 (fun o => o) ?_
  replace h := h _ rfl
  generalize upA H (v0 : Int).toNat (up1 (H (v0 : Int).toNat) 30 (-1)) = H3 at h ⊢
  refine r_aload_n 0 dX12_choose_5 rfl rfl ?_
  refine r_getf cls12 13 dX12_choose_6 (by decide) fl_RX12_34 rfl h1 h2 ?_
  refine r_iload_n 1 dX12_choose_9 rfl rfl ?_
  obtain ⟨h4, h⟩ := h
  obtain ⟨n5, h⟩ := h
  obtain ⟨h6, h⟩ := h
  obtain ⟨h7, h⟩ := h
  obtain ⟨h8, h⟩ := h
  refine r_iald n5 dX12_choose_10 h4 h6 h7 h8 ?_
  refine r_istore_n dX12_choose_11 rfl (by decide) rfl ?_
  refine r_iconst dX12_choose_12 (by decide) (by decide) ?_
  refine r_istore_n dX12_choose_13 rfl (by decide) rfl ?_
  refine r_iconst dX12_choose_14 (by decide) (by decide) ?_
  refine r_istore dX12_choose_15 (by decide) rfl ?_
  refine Fr.fewer [3, 4, 2, 1, 0] rfl ?_
  exact h
set_option maxHeartbeats 4000000 in
set_option maxRecDepth 20000 in
theorem bX12_choose_17 {d : Nat} {K : Shp} {H : Mem} {q : Int → Mem → Prop} {v0 v1 v2 v3 v4 : Int} (h : ((¬ (v4 : Int) < v2 → FX12_choose_41 d K H q (v0) (v1) (v2) (v3) (0)) ∧ ((v4 : Int) < v2 → ((0 : Int) ≤ v0) ∧ (K[(v0 : Int).toNat]? = some (12, 51)) ∧ (inI ((H (v0 : Int).toNat 28) + 1)) ∧ (inI (v3 * ((H (v0 : Int).toNat 28) + 1))) ∧ (inI (v4 + 1)) ∧ FX12_choose_17 d K H q (v0) (v1) (v2) ((v3 * ((H (v0 : Int).toNat 28) + 1))) ((v4 + 1))))) : FX12_choose_17 d K H q (v0) (v1) (v2) (v3) (v4) := by
  unfold FX12_choose_17
  refine r_iload 4 dX12_choose_17 rfl ?_
  refine r_iload_n 2 dX12_choose_19 rfl rfl ?_
  refine r_icmp_ge (tgt := 38) dX12_choose_20 (by decide) (fun c1 => ?_) (fun c1 => ?_)
  · replace h := h.1 c1
    refine r_iconst dX12_choose_38 (by decide) (by decide) ?_
    refine r_istore dX12_choose_39 (by decide) rfl ?_
    refine Fr.fewer [1, 2, 3, 4, 0] rfl ?_
    exact h
  · replace h := h.2 c1
    refine r_iload_n 3 dX12_choose_23 rfl rfl ?_
    refine r_aload_n 0 dX12_choose_24 rfl rfl ?_
    obtain ⟨h2, h⟩ := h
    obtain ⟨h3, h⟩ := h
    refine r_getf cls12 28 dX12_choose_25 (by decide) fl_RX12_252 rfl h2 h3 ?_
    refine r_iconst dX12_choose_28 (by decide) (by decide) ?_
    obtain ⟨h4, h⟩ := h
    refine r_iadd dX12_choose_29 h4 ?_
    obtain ⟨h5, h⟩ := h
    refine r_imul dX12_choose_30 h5 ?_
    refine r_istore_n dX12_choose_31 rfl (by decide) rfl ?_
    obtain ⟨h6, h⟩ := h
    refine r_iinc 4 dX12_choose_32 (by decide) rfl h6 rfl ?_
    refine r_goto (tgt := 17) dX12_choose_35 (by decide) ?_
    refine Fr.fewer [2, 3, 4, 1, 0] rfl ?_
    exact h
set_option maxHeartbeats 4000000 in
set_option maxRecDepth 20000 in
theorem bX12_choose_41 {d : Nat} {K : Shp} {H : Mem} {q : Int → Mem → Prop} {v0 v1 v2 v3 v4 : Int} (h : ((¬ (v4 : Int) < 6 → FX12_choose_65 d K H q (v0) (v1) (v2) (v3) (0)) ∧ ((v4 : Int) < 6 → ((0 : Int) ≤ v0) ∧ (K[(v0 : Int).toNat]? = some (12, 51)) ∧ ((0 : Int) ≤ (H (v0 : Int).toNat 18)) ∧ ∃ n5 : Nat, (K[((H (v0 : Int).toNat 18) : Int).toNat]? = some (20, n5)) ∧ ((0 : Int) ≤ v4) ∧ ((v4 : Int) < n5) ∧ ∀ H9 : Mem, H9 = upA H ((H (v0 : Int).toNat 18) : Int).toNat (up1 (H ((H (v0 : Int).toNat 18) : Int).toNat) (v4 : Int).toNat 0) → (inI (v4 + 1)) ∧ FX12_choose_41 d K H9 q (v0) (v1) (v2) (v3) ((v4 + 1))))) : FX12_choose_41 d K H q (v0) (v1) (v2) (v3) (v4) := by
  unfold FX12_choose_41
  refine r_iload 4 dX12_choose_41 rfl ?_
  refine r_bipush dX12_choose_43 (by decide) (by decide) ?_
  refine r_icmp_ge (tgt := 62) dX12_choose_45 (by decide) (fun c1 => ?_) (fun c1 => ?_)
  · replace h := h.1 c1
    refine r_iconst dX12_choose_62 (by decide) (by decide) ?_
    refine r_istore dX12_choose_63 (by decide) rfl ?_
    refine Fr.fewer [1, 2, 3, 4, 0] rfl ?_
    exact h
  · replace h := h.2 c1
    refine r_aload_n 0 dX12_choose_48 rfl rfl ?_
    obtain ⟨h2, h⟩ := h
    obtain ⟨h3, h⟩ := h
    refine r_getf cls12 18 dX12_choose_49 (by decide) fl_RX12_49 rfl h2 h3 ?_
    refine r_iload 4 dX12_choose_52 rfl ?_
    refine r_iconst dX12_choose_54 (by decide) (by decide) ?_
    obtain ⟨h4, h⟩ := h
    obtain ⟨n5, h⟩ := h
    obtain ⟨h6, h⟩ := h
    obtain ⟨h7, h⟩ := h
    obtain ⟨h8, h⟩ := h
    refine r_iast n5 dX12_choose_55 h4 h6 h7 h8 ?_
    replace h := h _ rfl
    generalize upA H ((H (v0 : Int).toNat 18) : Int).toNat (up1 (H ((H (v0 : Int).toNat 18) : Int).toNat) (v4 : Int).toNat 0) = H9 at h ⊢
    obtain ⟨h10, h⟩ := h
    refine r_iinc 4 dX12_choose_56 (by decide) rfl h10 rfl ?_
    refine r_goto (tgt := 41) dX12_choose_59 (by decide) ?_
    refine Fr.fewer [1, 2, 3, 4, 0] rfl ?_
    exact h
set_option maxHeartbeats 4000000 in
set_option maxRecDepth 20000 in
theorem bX12_choose_65 {d : Nat} {K : Shp} {H : Mem} {q : Int → Mem → Prop} {v0 v1 v2 v3 v4 : Int} (h : ((¬ (v4 : Int) < v3 → ((0 : Int) ≤ v0) ∧ (K[(v0 : Int).toNat]? = some (12, 51)) ∧ ((((H (v0 : Int).toNat 30) : Int) = (-1) → q 0 H) ∧ (¬ ((H (v0 : Int).toNat 30) : Int) = (-1) → q 1 H))) ∧ ((v4 : Int) < v3 → (inI (v2 - 1)) ∧ FX12_choose_83 d K H q (v0) (v1) (v2) (v3) (v4) (v4) (0) ((v2 - 1))))) : FX12_choose_65 d K H q (v0) (v1) (v2) (v3) (v4) := by
  unfold FX12_choose_65
  refine r_iload 4 dX12_choose_65 rfl ?_
  refine r_iload_n 3 dX12_choose_67 rfl rfl ?_
  refine r_icmp_ge (tgt := 253) dX12_choose_68 (by decide) (fun c1 => ?_) (fun c1 => ?_)
  · replace h := h.1 c1
    refine r_aload_n 0 dX12_choose_253 rfl rfl ?_
    obtain ⟨h2, h⟩ := h
    obtain ⟨h3, h⟩ := h
    refine r_getf cls12 30 dX12_choose_254 (by decide) fl_RX12_255 rfl h2 h3 ?_
    refine r_iconst dX12_choose_257 (by decide) (by decide) ?_
    refine r_icmp_eq (tgt := 265) dX12_choose_258 (by decide) (fun c4 => ?_) (fun c4 => ?_)
    · replace h := h.1 c4
      refine r_iconst dX12_choose_265 (by decide) (by decide) ?_
      exact r_zret dX12_choose_266 rfl (Or.inl rfl) ⟨rfl, _, rfl, h⟩
    · replace h := h.2 c4
      refine r_iconst dX12_choose_261 (by decide) (by decide) ?_
      refine r_goto (tgt := 266) dX12_choose_262 (by decide) ?_
      exact r_zret dX12_choose_266 rfl (Or.inr rfl) ⟨rfl, _, rfl, h⟩
  · replace h := h.2 c1
    refine r_iload 4 dX12_choose_71 rfl ?_
    refine r_istore dX12_choose_73 (by decide) rfl ?_
    refine r_iconst dX12_choose_75 (by decide) (by decide) ?_
    refine r_istore dX12_choose_76 (by decide) rfl ?_
    refine r_iload_n 4 dX12_choose_78 rfl rfl ?_
    refine r_iconst dX12_choose_79 (by decide) (by decide) ?_
    obtain ⟨h5, h⟩ := h
    refine r_isub dX12_choose_80 h5 ?_
    refine r_istore dX12_choose_81 (by decide) rfl ?_
    refine Fr.fewer [3, 4, 5, 6, 7, 2, 1, 0] rfl ?_
    exact h
set_option maxHeartbeats 4000000 in
set_option maxRecDepth 20000 in
theorem bX12_choose_83 {d : Nat} {K : Shp} {H : Mem} {q : Int → Mem → Prop} {v0 v1 v2 v3 v4 v5 v6 v7 : Int} (h : (((v7 : Int) < 0 → ((0 : Int) ≤ v0) ∧ (K[(v0 : Int).toNat]? = some (12, 51)) ∧ ((((H (v0 : Int).toNat 30) : Int) = (-1) → FX12_choose_179 d K H q (v0) (v1) (v2) (v3) (v4) (v6)) ∧ (¬ ((H (v0 : Int).toNat 30) : Int) = (-1) → ((¬ (v6 : Int) < (H (v0 : Int).toNat 30) → FX12_choose_247 d K H q (v0) (v1) (v2) (v3) (v4)) ∧ ((v6 : Int) < (H (v0 : Int).toNat 30) → FX12_choose_179 d K H q (v0) (v1) (v2) (v3) (v4) (v6)))))) ∧ (¬ (v7 : Int) < 0 → ((0 : Int) ≤ v0) ∧ (K[(v0 : Int).toNat]? = some (12, 51)) ∧ (inI ((H (v0 : Int).toNat 28) + 1)) ∧ ((((H (v0 : Int).toNat 28) + 1) : Int) ≠ 0) ∧ (inI (Int.tmod v5 ((H (v0 : Int).toNat 28) + 1))) ∧ (inI ((Int.tmod v5 ((H (v0 : Int).toNat 28) + 1)) - 1)) ∧ (inI (Int.tdiv v5 ((H (v0 : Int).toNat 28) + 1))) ∧ ((¬ (((Int.tmod v5 ((H (v0 : Int).toNat 28) + 1)) - 1) : Int) < 0 → ((0 : Int) ≤ (H (v0 : Int).toNat 25)) ∧ ∃ n15 : Nat, (K[((H (v0 : Int).toNat 25) : Int).toNat]? = some (20, n15)) ∧ ((0 : Int) ≤ ((Int.tmod v5 ((H (v0 : Int).toNat 28) + 1)) - 1)) ∧ ((((Int.tmod v5 ((H (v0 : Int).toNat 28) + 1)) - 1) : Int) < n15) ∧ FX12_choose_134 d K H q (v0) (v1) (v2) (v3) (v4) ((Int.tdiv v5 ((H (v0 : Int).toNat 28) + 1))) (v6) (v7) (((Int.tmod v5 ((H (v0 : Int).toNat 28) + 1)) - 1)) ((H ((H (v0 : Int).toNat 25) : Int).toNat (((Int.tmod v5 ((H (v0 : Int).toNat 28) + 1)) - 1) : Int).toNat)) (v7) ((H (v0 : Int).toNat 18))) ∧ ((((Int.tmod v5 ((H (v0 : Int).toNat 28) + 1)) - 1) : Int) < 0 → FX12_choose_134 d K H q (v0) (v1) (v2) (v3) (v4) ((Int.tdiv v5 ((H (v0 : Int).toNat 28) + 1))) (v6) (v7) (((Int.tmod v5 ((H (v0 : Int).toNat 28) + 1)) - 1)) (0) (v7) ((H (v0 : Int).toNat 18))))))) : FX12_choose_83 d K H q (v0) (v1) (v2) (v3) (v4) (v5) (v6) (v7) := by
  unfold FX12_choose_83
  refine r_iload 7 dX12_choose_83 rfl ?_
  refine r_if_lt (tgt := 162) dX12_choose_85 (by decide) (fun c1 => ?_) (fun c1 => ?_)
  · replace h := h.1 c1
    refine r_aload_n 0 dX12_choose_162 rfl rfl ?_
    obtain ⟨h2, h⟩ := h
    obtain ⟨h3, h⟩ := h
    refine r_getf cls12 30 dX12_choose_163 (by decide) fl_RX12_255 rfl h2 h3 ?_
    refine r_iconst dX12_choose_166 (by decide) (by decide) ?_
    refine r_icmp_eq (tgt := 179) dX12_choose_167 (by decide) (fun c4 => ?_) (fun c4 => ?_)
    · replace h := h.1 c4
      refine Fr.fewer [0, 1, 2, 3, 4, 6] rfl ?_
      exact h
    · replace h := h.2 c4
      refine r_iload 6 dX12_choose_170 rfl ?_
      refine r_aload_n 0 dX12_choose_172 rfl rfl ?_
      refine r_getf cls12 30 dX12_choose_173 (by decide) fl_RX12_255 rfl h2 h3 ?_
      refine r_icmp_ge (tgt := 247) dX12_choose_176 (by decide) (fun c5 => ?_) (fun c5 => ?_)
      · replace h := h.1 c5
        refine Fr.fewer [0, 1, 2, 3, 4] rfl ?_
        exact h
      · replace h := h.2 c5
        refine Fr.fewer [0, 1, 2, 3, 4, 6] rfl ?_
        exact h
  · replace h := h.2 c1
    refine r_iload 5 dX12_choose_88 rfl ?_
    refine r_aload_n 0 dX12_choose_90 rfl rfl ?_
    obtain ⟨h6, h⟩ := h
    obtain ⟨h7, h⟩ := h
    refine r_getf cls12 28 dX12_choose_91 (by decide) fl_RX12_252 rfl h6 h7 ?_
    refine r_iconst dX12_choose_94 (by decide) (by decide) ?_
    obtain ⟨h8, h⟩ := h
    refine r_iadd dX12_choose_95 h8 ?_
    obtain ⟨h9, h⟩ := h
    obtain ⟨h10, h⟩ := h
    refine r_irem dX12_choose_96 h9 h10 ?_
    refine r_iconst dX12_choose_97 (by decide) (by decide) ?_
    obtain ⟨h11, h⟩ := h
    refine r_isub dX12_choose_98 h11 ?_
    refine r_istore dX12_choose_99 (by decide) rfl ?_
    refine r_iload 6 dX12_choose_101 rfl ?_
    refine r_aload_n 1 dX12_choose_103 rfl rfl ?_
    refine r_getf cls12 28 dX12_choose_104 (by decide) fl_RX12_252 rfl h6 h7 ?_
    refine r_iconst dX12_choose_107 (by decide) (by decide) ?_
    refine r_iadd dX12_choose_108 h8 ?_
    obtain ⟨h12, h⟩ := h
    refine r_idiv dX12_choose_109 h9 h12 ?_
    refine r_istore dX12_choose_110 (by decide) rfl ?_
    refine r_aload_n 2 dX12_choose_112 rfl rfl ?_
    refine r_getf cls12 18 dX12_choose_113 (by decide) fl_RX12_49 rfl h6 h7 ?_
    refine r_iload 8 dX12_choose_116 rfl ?_
    refine r_iload 1 dX12_choose_118 rfl ?_
    refine r_if_ge (tgt := 127) dX12_choose_120 (by decide) (fun c13 => ?_) (fun c13 => ?_)
    · replace h := h.1 c13
      refine r_aload_n 2 dX12_choose_127 rfl rfl ?_
      refine r_getf cls12 25 dX12_choose_128 (by decide) fl_RX12_58 rfl h6 h7 ?_
      refine r_iload 1 dX12_choose_131 rfl ?_
      obtain ⟨h14, h⟩ := h
      obtain ⟨n15, h⟩ := h
      obtain ⟨h16, h⟩ := h
      obtain ⟨h17, h⟩ := h
      obtain ⟨h18, h⟩ := h
      refine r_iald n15 dX12_choose_133 h14 h16 h17 h18 ?_
      refine Fr.fewer [2, 3, 4, 5, 6, 0, 7, 8, 1] rfl ?_
      exact h
    · replace h := h.2 c13
      refine r_iconst dX12_choose_123 (by decide) (by decide) ?_
      refine r_goto (tgt := 134) dX12_choose_124 (by decide) ?_
      refine Fr.fewer [2, 3, 4, 5, 6, 0, 7, 8, 1] rfl ?_
      exact h
set_option maxHeartbeats 4000000 in
set_option maxRecDepth 20000 in
theorem bX12_choose_179 {d : Nat} {K : Shp} {H : Mem} {q : Int → Mem → Prop} {v0 v1 v2 v3 v4 v6 : Int} (h : ((0 : Int) ≤ v0) ∧ (K[(v0 : Int).toNat]? = some (12, 51)) ∧ Ci mX12_fails d [(2, v0), (0, v1)] K H (fun x4 H3 => (((x4 : Int) = (-2) → ∀ H6 : Mem, H6 = upA H3 (v0 : Int).toNat (up1 (H3 (v0 : Int).toNat) 30 v6) → (inI (v2 - 1)) ∧ FX12_choose_207 d K H6 q (v0) (v1) (v2) (v3) (v4) (v4) ((v2 - 1))) ∧ (¬ (x4 : Int) = (-2) → FX12_choose_247 d K H3 q (v0) (v1) (v2) (v3) (v4))))) : FX12_choose_179 d K H q (v0) (v1) (v2) (v3) (v4) (v6) := by
  unfold FX12_choose_179
  refine r_aload_n 0 dX12_choose_179 rfl rfl ?_
  refine r_iload_n 1 dX12_choose_180 rfl rfl ?_
  obtain ⟨h1, h⟩ := h
  obtain ⟨h2, h⟩ := h
  refine r_invV (M := mX12_choose) (As := [(0, v1)]) (st := []) (X := v0) (mc := 0) (ms := 0) (fc := 0) (fs := 0) h ok_X12_fails cls12 im_X12_fails se_X12_fails ml_RX12_249 dX12_choose_181 rfl h1 h2 (Nat.le_of_ble_eq_true rfl) rfl ?_
  rintro r K1 H3 ⟨rfl, x4, rfl, h⟩ -
  show Fr mX12_choose (d + 1) 0 0 none 184 [(0, (2, v0)), (1, (0, v1)), (2, (0, v2)), (3, (0, v3)), (4, (0, v4)), (6, (0, v6))] [(0, x4)] _ H3 _
  refine r_bipush dX12_choose_184 (by decide) (by decide) ?_
  refine r_icmp_eq (tgt := 192) dX12_choose_186 (by decide) (fun c5 => ?_) (fun c5 => ?_)
  · replace h := h.1 c5
    refine r_aload_n 0 dX12_choose_192 rfl rfl ?_
    refine r_iload 5 dX12_choose_193 rfl ?_
    refine r_putf cls12 30 dX12_choose_195 (by decide) rfl fl_RX12_255 rfl h1 h2 (fun o => o) ?_
    replace h := h _ rfl
    generalize upA H3 (v0 : Int).toNat (up1 (H3 (v0 : Int).toNat) 30 v6) = H6 at h ⊢
    refine r_iload 4 dX12_choose_198 rfl ?_
    refine r_istore dX12_choose_200 (by decide) rfl ?_
    refine r_iload_n 3 dX12_choose_202 rfl rfl ?_
    refine r_iconst dX12_choose_203 (by decide) (by decide) ?_
    obtain ⟨h7, h⟩ := h
    refine r_isub dX12_choose_204 h7 ?_
    refine r_istore dX12_choose_205 (by decide) rfl ?_
    refine Fr.fewer [2, 3, 4, 5, 6, 1, 0] rfl ?_
    exact h
  · replace h := h.2 c5
    refine r_goto (tgt := 247) dX12_choose_189 (by decide) ?_
    refine Fr.fewer [0, 1, 2, 3, 4] rfl ?_
    exact h
set_option maxHeartbeats 4000000 in
set_option maxRecDepth 20000 in
theorem bX12_choose_247 {d : Nat} {K : Shp} {H : Mem} {q : Int → Mem → Prop} {v0 v1 v2 v3 v4 : Int} (h : (inI (v4 + 1)) ∧ FX12_choose_65 d K H q (v0) (v1) (v2) (v3) ((v4 + 1))) : FX12_choose_247 d K H q (v0) (v1) (v2) (v3) (v4) := by
  unfold FX12_choose_247
  obtain ⟨h1, h⟩ := h
  refine r_iinc 4 dX12_choose_247 (by decide) rfl h1 rfl ?_
  refine r_goto (tgt := 65) dX12_choose_250 (by decide) ?_
  refine Fr.fewer [1, 2, 3, 4, 0] rfl ?_
  exact h
set_option maxHeartbeats 4000000 in
set_option maxRecDepth 20000 in
theorem bX12_choose_134 {d : Nat} {K : Shp} {H : Mem} {q : Int → Mem → Prop} {v0 v1 v2 v3 v4 v5 v6 v7 v8 s0 s1 s2 : Int} (h : ((0 : Int) ≤ s2) ∧ ∃ n2 : Nat, (K[(s2 : Int).toNat]? = some (20, n2)) ∧ ((0 : Int) ≤ s1) ∧ ((s1 : Int) < n2) ∧ ∀ H6 : Mem, H6 = upA H (s2 : Int).toNat (up1 (H (s2 : Int).toNat) (s1 : Int).toNat s0) → ((¬ (v8 : Int) < 0 → ((0 : Int) ≤ v0) ∧ (K[(v0 : Int).toNat]? = some (12, 51)) ∧ ((0 : Int) ≤ (H6 (v0 : Int).toNat 26)) ∧ ∃ n11 : Nat, (K[((H6 (v0 : Int).toNat 26) : Int).toNat]? = some (20, n11)) ∧ ((0 : Int) ≤ v8) ∧ ((v8 : Int) < n11) ∧ FX12_choose_153 d K H6 q (v0) (v1) (v2) (v3) (v4) (v5) (v7) ((H6 ((H6 (v0 : Int).toNat 26) : Int).toNat (v8 : Int).toNat)) (v6)) ∧ ((v8 : Int) < 0 → FX12_choose_153 d K H6 q (v0) (v1) (v2) (v3) (v4) (v5) (v7) (0) (v6)))) : FX12_choose_134 d K H q (v0) (v1) (v2) (v3) (v4) (v5) (v6) (v7) (v8) (s0) (s1) (s2) := by
  unfold FX12_choose_134
  obtain ⟨h1, h⟩ := h
  obtain ⟨n2, h⟩ := h
  obtain ⟨h3, h⟩ := h
  obtain ⟨h4, h⟩ := h
  obtain ⟨h5, h⟩ := h
  refine r_iast n2 dX12_choose_134 h1 h3 h4 h5 ?_
  replace h := h _ rfl
  generalize upA H (s2 : Int).toNat (up1 (H (s2 : Int).toNat) (s1 : Int).toNat s0) = H6 at h ⊢
  refine r_iload 6 dX12_choose_135 rfl ?_
  refine r_iload 8 dX12_choose_137 rfl ?_
  refine r_if_ge (tgt := 146) dX12_choose_139 (by decide) (fun c7 => ?_) (fun c7 => ?_)
  · replace h := h.1 c7
    refine r_aload_n 0 dX12_choose_146 rfl rfl ?_
    obtain ⟨h8, h⟩ := h
    obtain ⟨h9, h⟩ := h
    refine r_getf cls12 26 dX12_choose_147 (by decide) fl_RX12_61 rfl h8 h9 ?_
    refine r_iload 8 dX12_choose_150 rfl ?_
    obtain ⟨h10, h⟩ := h
    obtain ⟨n11, h⟩ := h
    obtain ⟨h12, h⟩ := h
    obtain ⟨h13, h⟩ := h
    obtain ⟨h14, h⟩ := h
    refine r_iald n11 dX12_choose_152 h10 h12 h13 h14 ?_
    refine Fr.fewer [0, 1, 2, 3, 4, 5, 7] rfl ?_
    exact h
  · replace h := h.2 c7
    refine r_iconst dX12_choose_142 (by decide) (by decide) ?_
    refine r_goto (tgt := 153) dX12_choose_143 (by decide) ?_
    refine Fr.fewer [0, 1, 2, 3, 4, 5, 7] rfl ?_
    exact h
set_option maxHeartbeats 4000000 in
set_option maxRecDepth 20000 in
theorem bX12_choose_207 {d : Nat} {K : Shp} {H : Mem} {q : Int → Mem → Prop} {v0 v1 v2 v3 v4 v5 v7 : Int} (h : (((v7 : Int) < 0 → FX12_choose_247 d K H q (v0) (v1) (v2) (v3) (v4)) ∧ (¬ (v7 : Int) < 0 → ((0 : Int) ≤ v0) ∧ (K[(v0 : Int).toNat]? = some (12, 51)) ∧ (inI ((H (v0 : Int).toNat 28) + 1)) ∧ ((((H (v0 : Int).toNat 28) + 1) : Int) ≠ 0) ∧ (inI (Int.tmod v5 ((H (v0 : Int).toNat 28) + 1))) ∧ (inI ((Int.tmod v5 ((H (v0 : Int).toNat 28) + 1)) - 1)) ∧ ((0 : Int) ≤ (H (v0 : Int).toNat 29)) ∧ ∃ n9 : Nat, (K[((H (v0 : Int).toNat 29) : Int).toNat]? = some (20, n9)) ∧ ((0 : Int) ≤ v7) ∧ ((v7 : Int) < n9) ∧ ∀ H13 : Mem, H13 = upA H ((H (v0 : Int).toNat 29) : Int).toNat (up1 (H ((H (v0 : Int).toNat 29) : Int).toNat) (v7 : Int).toNat ((Int.tmod v5 ((H (v0 : Int).toNat 28) + 1)) - 1)) → (inI ((H13 (v0 : Int).toNat 28) + 1)) ∧ ((((H13 (v0 : Int).toNat 28) + 1) : Int) ≠ 0) ∧ (inI (Int.tdiv v5 ((H13 (v0 : Int).toNat 28) + 1))) ∧ (inI (v7 + (-1))) ∧ FX12_choose_207 d K H13 q (v0) (v1) (v2) (v3) (v4) ((Int.tdiv v5 ((H13 (v0 : Int).toNat 28) + 1))) ((v7 + (-1)))))) : FX12_choose_207 d K H q (v0) (v1) (v2) (v3) (v4) (v5) (v7) := by
  unfold FX12_choose_207
  refine r_iload 6 dX12_choose_207 rfl ?_
  refine r_if_lt (tgt := 247) dX12_choose_209 (by decide) (fun c1 => ?_) (fun c1 => ?_)
  · replace h := h.1 c1
    refine Fr.fewer [0, 1, 2, 3, 4] rfl ?_
    exact h
  · replace h := h.2 c1
    refine r_aload_n 0 dX12_choose_212 rfl rfl ?_
    obtain ⟨h2, h⟩ := h
    obtain ⟨h3, h⟩ := h
    refine r_getf cls12 29 dX12_choose_213 (by decide) fl_RX12_64 rfl h2 h3 ?_
    refine r_iload 6 dX12_choose_216 rfl ?_
    refine r_iload 5 dX12_choose_218 rfl ?_
    refine r_aload_n 0 dX12_choose_220 rfl rfl ?_
    refine r_getf cls12 28 dX12_choose_221 (by decide) fl_RX12_252 rfl h2 h3 ?_
    refine r_iconst dX12_choose_224 (by decide) (by decide) ?_
    obtain ⟨h4, h⟩ := h
    refine r_iadd dX12_choose_225 h4 ?_
    obtain ⟨h5, h⟩ := h
    obtain ⟨h6, h⟩ := h
    refine r_irem dX12_choose_226 h5 h6 ?_
    refine r_iconst dX12_choose_227 (by decide) (by decide) ?_
    obtain ⟨h7, h⟩ := h
    refine r_isub dX12_choose_228 h7 ?_
    obtain ⟨h8, h⟩ := h
    obtain ⟨n9, h⟩ := h
    obtain ⟨h10, h⟩ := h
    obtain ⟨h11, h⟩ := h
    obtain ⟨h12, h⟩ := h
    refine r_iast n9 dX12_choose_229 h8 h10 h11 h12 ?_
    replace h := h _ rfl
    generalize upA H ((H (v0 : Int).toNat 29) : Int).toNat (up1 (H ((H (v0 : Int).toNat 29) : Int).toNat) (v7 : Int).toNat ((Int.tmod v5 ((H (v0 : Int).toNat 28) + 1)) - 1)) = H13 at h ⊢
    refine r_iload 5 dX12_choose_230 rfl ?_
    refine r_aload_n 0 dX12_choose_232 rfl rfl ?_
    refine r_getf cls12 28 dX12_choose_233 (by decide) fl_RX12_252 rfl h2 h3 ?_
    refine r_iconst dX12_choose_236 (by decide) (by decide) ?_
    obtain ⟨h14, h⟩ := h
    refine r_iadd dX12_choose_237 h14 ?_
    obtain ⟨h15, h⟩ := h
    obtain ⟨h16, h⟩ := h
    refine r_idiv dX12_choose_238 h15 h16 ?_
    refine r_istore dX12_choose_239 (by decide) rfl ?_
    obtain ⟨h17, h⟩ := h
    refine r_iinc 6 dX12_choose_241 (by decide) rfl h17 rfl ?_
    refine r_goto (tgt := 207) dX12_choose_244 (by decide) ?_
    refine Fr.fewer [2, 3, 4, 5, 6, 1, 0] rfl ?_
    exact h
set_option maxHeartbeats 4000000 in
set_option maxRecDepth 20000 in
theorem bX12_choose_153 {d : Nat} {K : Shp} {H : Mem} {q : Int → Mem → Prop} {v0 v1 v2 v3 v4 v5 v7 s0 s1 : Int} (h : (inI (s1 + s0)) ∧ (inI (v7 + (-1))) ∧ FX12_choose_83 d K H q (v0) (v1) (v2) (v3) (v4) (v5) ((s1 + s0)) ((v7 + (-1)))) : FX12_choose_153 d K H q (v0) (v1) (v2) (v3) (v4) (v5) (v7) (s0) (s1) := by
  unfold FX12_choose_153
  obtain ⟨h1, h⟩ := h
  refine r_iadd dX12_choose_153 h1 ?_
  refine r_istore dX12_choose_154 (by decide) rfl ?_
  obtain ⟨h2, h⟩ := h
  refine r_iinc 7 dX12_choose_156 (by decide) rfl h2 rfl ?_
  refine r_goto (tgt := 83) dX12_choose_159 (by decide) ?_
  refine Fr.fewer [2, 3, 4, 5, 6, 7, 1, 0] rfl ?_
  exact h
set_option maxHeartbeats 4000000 in
set_option maxRecDepth 20000 in
theorem eX12_choose {d : Nat} {K : Shp} {H : Mem} {q : Int → Mem → Prop} {v0 v1 : Int} (h : inI v1 → Rng K H → FX12_choose_0 d K H q v0 v1) : Ci mX12_choose (d + 1) [(2, v0), (0, v1)] K H q := Call.of rfl (Nat.le_of_ble_eq_true rfl) (fun o r => h (o (0, v1) (by simp)) r)
def FX12_best_0 (d : Nat) (K : Shp) (H : Mem) (q : Int → Mem → Prop) (v0 : Int) (v1 : Int) : Prop := Fr mX12_best (d + 1) 0 0 none 0 [(0, (2, v0)), (1, (0, v1))] [] K H (qi K q)
set_option maxHeartbeats 4000000 in
set_option maxRecDepth 20000 in
theorem bX12_best_0 {d : Nat} {K : Shp} {H : Mem} {q : Int → Mem → Prop} {v0 v1 : Int} (h : Ci mX12_isSection d [(0, v1)] K H (fun x2 H1 => ((¬ (x2 : Int) = 0 → ((0 : Int) ≤ v0) ∧ (K[(v0 : Int).toNat]? = some (12, 51)) ∧ Ci mX12_choose d [(2, v0), (0, v1)] K H1 (fun x7 H6 => ((¬ (x7 : Int) = 0 → ∀ H9 : Mem, H9 = upA H6 (v0 : Int).toNat (up1 (H6 (v0 : Int).toNat) 0 0) → q (H9 (v0 : Int).toNat 30) H9) ∧ ((x7 : Int) = 0 → Ci mX12_refuse d [(2, v0), (0, 5)] K H6 (fun x11 H10 => q x11 H10))))) ∧ ((x2 : Int) = 0 → ((0 : Int) ≤ v0) ∧ (K[(v0 : Int).toNat]? = some (12, 51)) ∧ Ci mX12_refuse d [(2, v0), (0, 1)] K H1 (fun x15 H14 => q x15 H14))))) : FX12_best_0 d K H q (v0) (v1) := by
  unfold FX12_best_0
  refine r_iload_n 1 dX12_best_0 rfl rfl ?_
  refine r_invS (M := mX12_best) (As := [(0, v1)]) (st := []) (mc := 0) (ms := 0) (fc := 0) (fs := 0) h ok_X12_isSection sm_X12_isSection ml_RX12_177 dX12_best_1 rfl (Nat.le_of_ble_eq_true rfl) rfl ?_
  rintro r K1 H1 ⟨rfl, x2, rfl, h⟩ -
  show Fr mX12_best (d + 1) 0 0 none 4 [(0, (2, v0)), (1, (0, v1))] [(0, x2)] _ H1 _
  refine r_if_ne (tgt := 13) dX12_best_4 (by decide) (fun c3 => ?_) (fun c3 => ?_)
  · replace h := h.1 c3
    refine r_aload_n 0 dX12_best_13 rfl rfl ?_
    refine r_iload_n 1 dX12_best_14 rfl rfl ?_
    obtain ⟨h4, h⟩ := h
    obtain ⟨h5, h⟩ := h
    refine r_invV (M := mX12_best) (As := [(0, v1)]) (st := []) (X := v0) (mc := 0) (ms := 0) (fc := 0) (fs := 0) h ok_X12_choose cls12 im_X12_choose se_X12_choose ml_RX12_258 dX12_best_15 rfl h4 h5 (Nat.le_of_ble_eq_true rfl) rfl ?_
    rintro r K1 H6 ⟨rfl, x7, rfl, h⟩ -
    show Fr mX12_best (d + 1) 0 0 none 18 [(0, (2, v0)), (1, (0, v1))] [(0, x7)] _ H6 _
    refine r_if_ne (tgt := 27) dX12_best_18 (by decide) (fun c8 => ?_) (fun c8 => ?_)
    · replace h := h.1 c8
      refine r_aload_n 0 dX12_best_27 rfl rfl ?_
      refine r_iconst dX12_best_28 (by decide) (by decide) ?_
      refine r_putf cls12 0 dX12_best_29 (by decide) rfl fl_RX12_89 rfl h4 h5 (fun o => o) ?_
      replace h := h _ rfl
      generalize upA H6 (v0 : Int).toNat (up1 (H6 (v0 : Int).toNat) 0 0) = H9 at h ⊢
      refine r_aload_n 0 dX12_best_32 rfl rfl ?_
      refine r_getf cls12 30 dX12_best_33 (by decide) fl_RX12_255 rfl h4 h5 ?_
      exact r_iret dX12_best_36 rfl ⟨rfl, _, rfl, h⟩
    · replace h := h.2 c8
      refine r_aload_n 0 dX12_best_21 rfl rfl ?_
      refine r_iconst dX12_best_22 (by decide) (by decide) ?_
      refine r_invV (M := mX12_best) (As := [(0, 5)]) (st := []) (X := v0) (mc := 0) (ms := 0) (fc := 0) (fs := 0) h ok_X12_refuse cls12 im_X12_refuse se_X12_refuse ml_RX12_184 dX12_best_23 rfl h4 h5 (Nat.le_of_ble_eq_true rfl) rfl ?_
      rintro r K1 H10 ⟨rfl, x11, rfl, h⟩ -
      show Fr mX12_best (d + 1) 0 0 none 26 [(0, (2, v0)), (1, (0, v1))] [(0, x11)] _ H10 _
      exact r_iret dX12_best_26 rfl ⟨rfl, _, rfl, h⟩
  · replace h := h.2 c3
    refine r_aload_n 0 dX12_best_7 rfl rfl ?_
    refine r_iconst dX12_best_8 (by decide) (by decide) ?_
    obtain ⟨h12, h⟩ := h
    obtain ⟨h13, h⟩ := h
    refine r_invV (M := mX12_best) (As := [(0, 1)]) (st := []) (X := v0) (mc := 0) (ms := 0) (fc := 0) (fs := 0) h ok_X12_refuse cls12 im_X12_refuse se_X12_refuse ml_RX12_184 dX12_best_9 rfl h12 h13 (Nat.le_of_ble_eq_true rfl) rfl ?_
    rintro r K1 H14 ⟨rfl, x15, rfl, h⟩ -
    show Fr mX12_best (d + 1) 0 0 none 12 [(0, (2, v0)), (1, (0, v1))] [(0, x15)] _ H14 _
    exact r_iret dX12_best_12 rfl ⟨rfl, _, rfl, h⟩
set_option maxHeartbeats 4000000 in
set_option maxRecDepth 20000 in
theorem eX12_best {d : Nat} {K : Shp} {H : Mem} {q : Int → Mem → Prop} {v0 v1 : Int} (h : inI v1 → Rng K H → FX12_best_0 d K H q v0 v1) : Ci mX12_best (d + 1) [(2, v0), (0, v1)] K H q := Call.of rfl (Nat.le_of_ble_eq_true rfl) (fun o r => h (o (0, v1) (by simp)) r)
def FX12_chosen_0 (d : Nat) (K : Shp) (H : Mem) (q : Int → Mem → Prop) (v0 : Int) (v1 : Int) (v2 : Int) : Prop := Fr mX12_chosen (d + 1) 0 0 none 0 [(0, (2, v0)), (1, (0, v1)), (2, (0, v2))] [] K H (qi K q)
set_option maxHeartbeats 4000000 in
set_option maxRecDepth 20000 in
theorem bX12_chosen_0 {d : Nat} {K : Shp} {H : Mem} {q : Int → Mem → Prop} {v0 v1 v2 : Int} (h : ((0 : Int) ≤ v0) ∧ (K[(v0 : Int).toNat]? = some (12, 51)) ∧ Ci mX12_isRod d [(2, v0), (0, v1), (0, v2)] K H (fun x4 H3 => ((¬ (x4 : Int) = 0 → Ci mX12_choose d [(2, v0), (0, v1)] K H3 (fun x7 H6 => ((¬ (x7 : Int) = 0 → ∀ H9 : Mem, H9 = upA H6 (v0 : Int).toNat (up1 (H6 (v0 : Int).toNat) 0 0) → ((0 : Int) ≤ (H9 (v0 : Int).toNat 29)) ∧ ∃ n11 : Nat, (K[((H9 (v0 : Int).toNat 29) : Int).toNat]? = some (20, n11)) ∧ ((0 : Int) ≤ v2) ∧ ((v2 : Int) < n11) ∧ ((¬ ((H9 ((H9 (v0 : Int).toNat 29) : Int).toNat (v2 : Int).toNat) : Int) < 0 → q (H9 ((H9 (v0 : Int).toNat 29) : Int).toNat (v2 : Int).toNat) H9) ∧ (((H9 ((H9 (v0 : Int).toNat 29) : Int).toNat (v2 : Int).toNat) : Int) < 0 → q (-2) H9))) ∧ ((x7 : Int) = 0 → Ci mX12_refuse d [(2, v0), (0, 5)] K H6 (fun x17 H16 => q x17 H16))))) ∧ ((x4 : Int) = 0 → Ci mX12_refuse d [(2, v0), (0, 1)] K H3 (fun x19 H18 => q x19 H18))))) : FX12_chosen_0 d K H q (v0) (v1) (v2) := by
  unfold FX12_chosen_0
  refine r_aload_n 0 dX12_chosen_0 rfl rfl ?_
  refine r_iload_n 1 dX12_chosen_1 rfl rfl ?_
  refine r_iload_n 2 dX12_chosen_2 rfl rfl ?_
  obtain ⟨h1, h⟩ := h
  obtain ⟨h2, h⟩ := h
  refine r_invV (M := mX12_chosen) (As := [(0, v1), (0, v2)]) (st := []) (X := v0) (mc := 0) (ms := 0) (fc := 0) (fs := 0) h ok_X12_isRod cls12 im_X12_isRod se_X12_isRod ml_RX12_187 dX12_chosen_3 rfl h1 h2 (Nat.le_of_ble_eq_true rfl) rfl ?_
  rintro r K1 H3 ⟨rfl, x4, rfl, h⟩ -
  show Fr mX12_chosen (d + 1) 0 0 none 6 [(0, (2, v0)), (1, (0, v1)), (2, (0, v2))] [(0, x4)] _ H3 _
  refine r_if_ne (tgt := 15) dX12_chosen_6 (by decide) (fun c5 => ?_) (fun c5 => ?_)
  · replace h := h.1 c5
    refine r_aload_n 0 dX12_chosen_15 rfl rfl ?_
    refine r_iload_n 1 dX12_chosen_16 rfl rfl ?_
    refine r_invV (M := mX12_chosen) (As := [(0, v1)]) (st := []) (X := v0) (mc := 0) (ms := 0) (fc := 0) (fs := 0) h ok_X12_choose cls12 im_X12_choose se_X12_choose ml_RX12_258 dX12_chosen_17 rfl h1 h2 (Nat.le_of_ble_eq_true rfl) rfl ?_
    rintro r K1 H6 ⟨rfl, x7, rfl, h⟩ -
    show Fr mX12_chosen (d + 1) 0 0 none 20 [(0, (2, v0)), (1, (0, v1)), (2, (0, v2))] [(0, x7)] _ H6 _
    refine r_if_ne (tgt := 29) dX12_chosen_20 (by decide) (fun c8 => ?_) (fun c8 => ?_)
    · replace h := h.1 c8
      refine r_aload_n 0 dX12_chosen_29 rfl rfl ?_
      refine r_iconst dX12_chosen_30 (by decide) (by decide) ?_
      refine r_putf cls12 0 dX12_chosen_31 (by decide) rfl fl_RX12_89 rfl h1 h2 (fun o => o) ?_
      replace h := h _ rfl
      generalize upA H6 (v0 : Int).toNat (up1 (H6 (v0 : Int).toNat) 0 0) = H9 at h ⊢
      refine r_aload_n 0 dX12_chosen_34 rfl rfl ?_
      refine r_getf cls12 29 dX12_chosen_35 (by decide) fl_RX12_64 rfl h1 h2 ?_
      refine r_iload_n 2 dX12_chosen_38 rfl rfl ?_
      obtain ⟨h10, h⟩ := h
      obtain ⟨n11, h⟩ := h
      obtain ⟨h12, h⟩ := h
      obtain ⟨h13, h⟩ := h
      obtain ⟨h14, h⟩ := h
      refine r_iald n11 dX12_chosen_39 h10 h12 h13 h14 ?_
      refine r_if_ge (tgt := 48) dX12_chosen_40 (by decide) (fun c15 => ?_) (fun c15 => ?_)
      · replace h := h.1 c15
        refine r_aload_n 0 dX12_chosen_48 rfl rfl ?_
        refine r_getf cls12 29 dX12_chosen_49 (by decide) fl_RX12_64 rfl h1 h2 ?_
        refine r_iload_n 2 dX12_chosen_52 rfl rfl ?_
        refine r_iald n11 dX12_chosen_53 h10 h12 h13 h14 ?_
        exact r_iret dX12_chosen_54 rfl ⟨rfl, _, rfl, h⟩
      · replace h := h.2 c15
        refine r_bipush dX12_chosen_43 (by decide) (by decide) ?_
        refine r_goto (tgt := 54) dX12_chosen_45 (by decide) ?_
        exact r_iret dX12_chosen_54 rfl ⟨rfl, _, rfl, h⟩
    · replace h := h.2 c8
      refine r_aload_n 0 dX12_chosen_23 rfl rfl ?_
      refine r_iconst dX12_chosen_24 (by decide) (by decide) ?_
      refine r_invV (M := mX12_chosen) (As := [(0, 5)]) (st := []) (X := v0) (mc := 0) (ms := 0) (fc := 0) (fs := 0) h ok_X12_refuse cls12 im_X12_refuse se_X12_refuse ml_RX12_184 dX12_chosen_25 rfl h1 h2 (Nat.le_of_ble_eq_true rfl) rfl ?_
      rintro r K1 H16 ⟨rfl, x17, rfl, h⟩ -
      show Fr mX12_chosen (d + 1) 0 0 none 28 [(0, (2, v0)), (1, (0, v1)), (2, (0, v2))] [(0, x17)] _ H16 _
      exact r_iret dX12_chosen_28 rfl ⟨rfl, _, rfl, h⟩
  · replace h := h.2 c5
    refine r_aload_n 0 dX12_chosen_9 rfl rfl ?_
    refine r_iconst dX12_chosen_10 (by decide) (by decide) ?_
    refine r_invV (M := mX12_chosen) (As := [(0, 1)]) (st := []) (X := v0) (mc := 0) (ms := 0) (fc := 0) (fs := 0) h ok_X12_refuse cls12 im_X12_refuse se_X12_refuse ml_RX12_184 dX12_chosen_11 rfl h1 h2 (Nat.le_of_ble_eq_true rfl) rfl ?_
    rintro r K1 H18 ⟨rfl, x19, rfl, h⟩ -
    show Fr mX12_chosen (d + 1) 0 0 none 14 [(0, (2, v0)), (1, (0, v1)), (2, (0, v2))] [(0, x19)] _ H18 _
    exact r_iret dX12_chosen_14 rfl ⟨rfl, _, rfl, h⟩
set_option maxHeartbeats 4000000 in
set_option maxRecDepth 20000 in
theorem eX12_chosen {d : Nat} {K : Shp} {H : Mem} {q : Int → Mem → Prop} {v0 v1 v2 : Int} (h : inI v1 → inI v2 → Rng K H → FX12_chosen_0 d K H q v0 v1 v2) : Ci mX12_chosen (d + 1) [(2, v0), (0, v1), (0, v2)] K H q := Call.of rfl (Nat.le_of_ble_eq_true rfl) (fun o r => h (o (0, v1) (by simp)) (o (0, v2) (by simp)) r)
def FX12_take_0 (d : Nat) (K : Shp) (H : Mem) (q : Int → Mem → Prop) (v0 : Int) (v1 : Int) : Prop := Fr mX12_take (d + 1) 0 0 none 0 [(0, (2, v0)), (1, (0, v1))] [] K H (qi K q)
def FX12_take_36 (d : Nat) (K : Shp) (H : Mem) (q : Int → Mem → Prop) (v0 : Int) (v1 : Int) (v2 : Int) (v3 : Int) : Prop := Fr mX12_take (d + 1) 0 0 none 36 [(0, (2, v0)), (1, (0, v1)), (2, (0, v2)), (3, (0, v3))] [] K H (qi K q)
set_option maxHeartbeats 4000000 in
set_option maxRecDepth 20000 in
theorem bX12_take_0 {d : Nat} {K : Shp} {H : Mem} {q : Int → Mem → Prop} {v0 v1 : Int} (h : Ci mX12_isSection d [(0, v1)] K H (fun x2 H1 => ((¬ (x2 : Int) = 0 → ((0 : Int) ≤ v0) ∧ (K[(v0 : Int).toNat]? = some (12, 51)) ∧ Ci mX12_choose d [(2, v0), (0, v1)] K H1 (fun x7 H6 => ((¬ (x7 : Int) = 0 → ∀ H9 : Mem, H9 = upA H6 (v0 : Int).toNat (up1 (H6 (v0 : Int).toNat) 0 0) → FX12_take_36 d K H9 q (v0) (v1) (0) (0)) ∧ ((x7 : Int) = 0 → Ci mX12_refuse d [(2, v0), (0, 5)] K H6 (fun x11 H10 => q x11 H10))))) ∧ ((x2 : Int) = 0 → ((0 : Int) ≤ v0) ∧ (K[(v0 : Int).toNat]? = some (12, 51)) ∧ Ci mX12_refuse d [(2, v0), (0, 1)] K H1 (fun x15 H14 => q x15 H14))))) : FX12_take_0 d K H q (v0) (v1) := by
  unfold FX12_take_0
  refine r_iload_n 1 dX12_take_0 rfl rfl ?_
  refine r_invS (M := mX12_take) (As := [(0, v1)]) (st := []) (mc := 0) (ms := 0) (fc := 0) (fs := 0) h ok_X12_isSection sm_X12_isSection ml_RX12_177 dX12_take_1 rfl (Nat.le_of_ble_eq_true rfl) rfl ?_
  rintro r K1 H1 ⟨rfl, x2, rfl, h⟩ -
  show Fr mX12_take (d + 1) 0 0 none 4 [(0, (2, v0)), (1, (0, v1))] [(0, x2)] _ H1 _
  refine r_if_ne (tgt := 13) dX12_take_4 (by decide) (fun c3 => ?_) (fun c3 => ?_)
  · replace h := h.1 c3
    refine r_aload_n 0 dX12_take_13 rfl rfl ?_
    refine r_iload_n 1 dX12_take_14 rfl rfl ?_
    obtain ⟨h4, h⟩ := h
    obtain ⟨h5, h⟩ := h
    refine r_invV (M := mX12_take) (As := [(0, v1)]) (st := []) (X := v0) (mc := 0) (ms := 0) (fc := 0) (fs := 0) h ok_X12_choose cls12 im_X12_choose se_X12_choose ml_RX12_258 dX12_take_15 rfl h4 h5 (Nat.le_of_ble_eq_true rfl) rfl ?_
    rintro r K1 H6 ⟨rfl, x7, rfl, h⟩ -
    show Fr mX12_take (d + 1) 0 0 none 18 [(0, (2, v0)), (1, (0, v1))] [(0, x7)] _ H6 _
    refine r_if_ne (tgt := 27) dX12_take_18 (by decide) (fun c8 => ?_) (fun c8 => ?_)
    · replace h := h.1 c8
      refine r_aload_n 0 dX12_take_27 rfl rfl ?_
      refine r_iconst dX12_take_28 (by decide) (by decide) ?_
      refine r_putf cls12 0 dX12_take_29 (by decide) rfl fl_RX12_89 rfl h4 h5 (fun o => o) ?_
      replace h := h _ rfl
      generalize upA H6 (v0 : Int).toNat (up1 (H6 (v0 : Int).toNat) 0 0) = H9 at h ⊢
      refine r_iconst dX12_take_32 (by decide) (by decide) ?_
      refine r_istore_n dX12_take_33 rfl (by decide) rfl ?_
      refine r_iconst dX12_take_34 (by decide) (by decide) ?_
      refine r_istore_n dX12_take_35 rfl (by decide) rfl ?_
      refine Fr.fewer [2, 3, 1, 0] rfl ?_
      exact h
    · replace h := h.2 c8
      refine r_aload_n 0 dX12_take_21 rfl rfl ?_
      refine r_iconst dX12_take_22 (by decide) (by decide) ?_
      refine r_invV (M := mX12_take) (As := [(0, 5)]) (st := []) (X := v0) (mc := 0) (ms := 0) (fc := 0) (fs := 0) h ok_X12_refuse cls12 im_X12_refuse se_X12_refuse ml_RX12_184 dX12_take_23 rfl h4 h5 (Nat.le_of_ble_eq_true rfl) rfl ?_
      rintro r K1 H10 ⟨rfl, x11, rfl, h⟩ -
      show Fr mX12_take (d + 1) 0 0 none 26 [(0, (2, v0)), (1, (0, v1))] [(0, x11)] _ H10 _
      exact r_iret dX12_take_26 rfl ⟨rfl, _, rfl, h⟩
  · replace h := h.2 c3
    refine r_aload_n 0 dX12_take_7 rfl rfl ?_
    refine r_iconst dX12_take_8 (by decide) (by decide) ?_
    obtain ⟨h12, h⟩ := h
    obtain ⟨h13, h⟩ := h
    refine r_invV (M := mX12_take) (As := [(0, 1)]) (st := []) (X := v0) (mc := 0) (ms := 0) (fc := 0) (fs := 0) h ok_X12_refuse cls12 im_X12_refuse se_X12_refuse ml_RX12_184 dX12_take_9 rfl h12 h13 (Nat.le_of_ble_eq_true rfl) rfl ?_
    rintro r K1 H14 ⟨rfl, x15, rfl, h⟩ -
    show Fr mX12_take (d + 1) 0 0 none 12 [(0, (2, v0)), (1, (0, v1))] [(0, x15)] _ H14 _
    exact r_iret dX12_take_12 rfl ⟨rfl, _, rfl, h⟩
set_option maxHeartbeats 4000000 in
set_option maxRecDepth 20000 in
theorem bX12_take_36 {d : Nat} {K : Shp} {H : Mem} {q : Int → Mem → Prop} {v0 v1 v2 v3 : Int} (h : ((0 : Int) ≤ v0) ∧ (K[(v0 : Int).toNat]? = some (12, 51)) ∧ ((0 : Int) ≤ (H (v0 : Int).toNat 13)) ∧ ∃ n4 : Nat, (K[((H (v0 : Int).toNat 13) : Int).toNat]? = some (20, n4)) ∧ ((0 : Int) ≤ v1) ∧ ((v1 : Int) < n4) ∧ ((¬ (v3 : Int) < (H ((H (v0 : Int).toNat 13) : Int).toNat (v1 : Int).toNat) → q v2 H) ∧ ((v3 : Int) < (H ((H (v0 : Int).toNat 13) : Int).toNat (v1 : Int).toNat) → ((0 : Int) ≤ (H (v0 : Int).toNat 29)) ∧ ∃ n10 : Nat, (K[((H (v0 : Int).toNat 29) : Int).toNat]? = some (20, n10)) ∧ ((0 : Int) ≤ v3) ∧ ((v3 : Int) < n10) ∧ ((¬ ((H ((H (v0 : Int).toNat 29) : Int).toNat (v3 : Int).toNat) : Int) < 0 → ((0 : Int) ≤ (H (v0 : Int).toNat 25)) ∧ ∃ n16 : Nat, (K[((H (v0 : Int).toNat 25) : Int).toNat]? = some (20, n16)) ∧ ((0 : Int) ≤ (H ((H (v0 : Int).toNat 29) : Int).toNat (v3 : Int).toNat)) ∧ (((H ((H (v0 : Int).toNat 29) : Int).toNat (v3 : Int).toNat) : Int) < n16) ∧ (inI (6 * v1)) ∧ (inI ((6 * v1) + v3)) ∧ ((0 : Int) ≤ (H (v0 : Int).toNat 17)) ∧ ∃ n23 : Nat, (K[((H (v0 : Int).toNat 17) : Int).toNat]? = some (20, n23)) ∧ ((0 : Int) ≤ ((6 * v1) + v3)) ∧ ((((6 * v1) + v3) : Int) < n23) ∧ ((¬ ((H ((H (v0 : Int).toNat 17) : Int).toNat (((6 * v1) + v3) : Int).toNat) : Int) = (H ((H (v0 : Int).toNat 25) : Int).toNat ((H ((H (v0 : Int).toNat 29) : Int).toNat (v3 : Int).toNat) : Int).toNat) → (inI (v2 + 1)) ∧ ∀ H29 : Mem, H29 = upA H ((H (v0 : Int).toNat 17) : Int).toNat (up1 (H ((H (v0 : Int).toNat 17) : Int).toNat) (((6 * v1) + v3) : Int).toNat (H ((H (v0 : Int).toNat 25) : Int).toNat ((H ((H (v0 : Int).toNat 29) : Int).toNat (v3 : Int).toNat) : Int).toNat)) → (inI (v3 + 1)) ∧ FX12_take_36 d K H29 q (v0) (v1) ((v2 + 1)) ((v3 + 1))) ∧ (((H ((H (v0 : Int).toNat 17) : Int).toNat (((6 * v1) + v3) : Int).toNat) : Int) = (H ((H (v0 : Int).toNat 25) : Int).toNat ((H ((H (v0 : Int).toNat 29) : Int).toNat (v3 : Int).toNat) : Int).toNat) → (inI (v2 + 0)) ∧ ∀ H32 : Mem, H32 = upA H ((H (v0 : Int).toNat 17) : Int).toNat (up1 (H ((H (v0 : Int).toNat 17) : Int).toNat) (((6 * v1) + v3) : Int).toNat (H ((H (v0 : Int).toNat 25) : Int).toNat ((H ((H (v0 : Int).toNat 29) : Int).toNat (v3 : Int).toNat) : Int).toNat)) → (inI (v3 + 1)) ∧ FX12_take_36 d K H32 q (v0) (v1) ((v2 + 0)) ((v3 + 1))))) ∧ (((H ((H (v0 : Int).toNat 29) : Int).toNat (v3 : Int).toNat) : Int) < 0 → (inI (6 * v1)) ∧ (inI ((6 * v1) + v3)) ∧ ((0 : Int) ≤ (H (v0 : Int).toNat 17)) ∧ ∃ n37 : Nat, (K[((H (v0 : Int).toNat 17) : Int).toNat]? = some (20, n37)) ∧ ((0 : Int) ≤ ((6 * v1) + v3)) ∧ ((((6 * v1) + v3) : Int) < n37) ∧ ((¬ ((H ((H (v0 : Int).toNat 17) : Int).toNat (((6 * v1) + v3) : Int).toNat) : Int) = 0 → (inI (v2 + 1)) ∧ ∀ H43 : Mem, H43 = upA H ((H (v0 : Int).toNat 17) : Int).toNat (up1 (H ((H (v0 : Int).toNat 17) : Int).toNat) (((6 * v1) + v3) : Int).toNat 0) → (inI (v3 + 1)) ∧ FX12_take_36 d K H43 q (v0) (v1) ((v2 + 1)) ((v3 + 1))) ∧ (((H ((H (v0 : Int).toNat 17) : Int).toNat (((6 * v1) + v3) : Int).toNat) : Int) = 0 → (inI (v2 + 0)) ∧ ∀ H46 : Mem, H46 = upA H ((H (v0 : Int).toNat 17) : Int).toNat (up1 (H ((H (v0 : Int).toNat 17) : Int).toNat) (((6 * v1) + v3) : Int).toNat 0) → (inI (v3 + 1)) ∧ FX12_take_36 d K H46 q (v0) (v1) ((v2 + 0)) ((v3 + 1))))))))) : FX12_take_36 d K H q (v0) (v1) (v2) (v3) := by
  unfold FX12_take_36
  refine r_iload_n 3 dX12_take_36 rfl rfl ?_
  refine r_aload_n 0 dX12_take_37 rfl rfl ?_
  obtain ⟨h1, h⟩ := h
  obtain ⟨h2, h⟩ := h
  refine r_getf cls12 13 dX12_take_38 (by decide) fl_RX12_34 rfl h1 h2 ?_
  refine r_iload_n 1 dX12_take_41 rfl rfl ?_
  obtain ⟨h3, h⟩ := h
  obtain ⟨n4, h⟩ := h
  obtain ⟨h5, h⟩ := h
  obtain ⟨h6, h⟩ := h
  obtain ⟨h7, h⟩ := h
  refine r_iald n4 dX12_take_42 h3 h5 h6 h7 ?_
  refine r_icmp_ge (tgt := 115) dX12_take_43 (by decide) (fun c8 => ?_) (fun c8 => ?_)
  · replace h := h.1 c8
    refine r_iload_n 2 dX12_take_115 rfl rfl ?_
    exact r_iret dX12_take_116 rfl ⟨rfl, _, rfl, h⟩
  · replace h := h.2 c8
    refine r_aload_n 0 dX12_take_46 rfl rfl ?_
    refine r_getf cls12 29 dX12_take_47 (by decide) fl_RX12_64 rfl h1 h2 ?_
    refine r_iload_n 3 dX12_take_50 rfl rfl ?_
    obtain ⟨h9, h⟩ := h
    obtain ⟨n10, h⟩ := h
    obtain ⟨h11, h⟩ := h
    obtain ⟨h12, h⟩ := h
    obtain ⟨h13, h⟩ := h
    refine r_iald n10 dX12_take_51 h9 h11 h12 h13 ?_
    refine r_if_ge (tgt := 59) dX12_take_52 (by decide) (fun c14 => ?_) (fun c14 => ?_)
    · replace h := h.1 c14
      refine r_aload_n 0 dX12_take_59 rfl rfl ?_
      refine r_getf cls12 25 dX12_take_60 (by decide) fl_RX12_58 rfl h1 h2 ?_
      refine r_aload_n 0 dX12_take_63 rfl rfl ?_
      refine r_getf cls12 29 dX12_take_64 (by decide) fl_RX12_64 rfl h1 h2 ?_
      refine r_iload_n 3 dX12_take_67 rfl rfl ?_
      refine r_iald n10 dX12_take_68 h9 h11 h12 h13 ?_
      obtain ⟨h15, h⟩ := h
      obtain ⟨n16, h⟩ := h
      obtain ⟨h17, h⟩ := h
      obtain ⟨h18, h⟩ := h
      obtain ⟨h19, h⟩ := h
      refine r_iald n16 dX12_take_69 h15 h17 h18 h19 ?_
      refine r_istore dX12_take_70 (by decide) rfl ?_
      refine r_iload_n 3 dX12_take_72 rfl rfl ?_
      refine r_aload_n 1 dX12_take_73 rfl rfl ?_
      refine r_getf cls12 17 dX12_take_74 (by decide) fl_RX12_46 rfl h1 h2 ?_
      refine r_bipush dX12_take_77 (by decide) (by decide) ?_
      refine r_iload_n 2 dX12_take_79 rfl rfl ?_
      obtain ⟨h20, h⟩ := h
      refine r_imul dX12_take_80 h20 ?_
      refine r_iload_n 4 dX12_take_81 rfl rfl ?_
      obtain ⟨h21, h⟩ := h
      refine r_iadd dX12_take_82 h21 ?_
      obtain ⟨h22, h⟩ := h
      obtain ⟨n23, h⟩ := h
      obtain ⟨h24, h⟩ := h
      obtain ⟨h25, h⟩ := h
      obtain ⟨h26, h⟩ := h
      refine r_iald n23 dX12_take_83 h22 h24 h25 h26 ?_
      refine r_iload 0 dX12_take_84 rfl ?_
      refine r_icmp_ne (tgt := 93) dX12_take_86 (by decide) (fun c27 => ?_) (fun c27 => ?_)
      · replace h := h.1 c27
        refine r_iconst dX12_take_93 (by decide) (by decide) ?_
        obtain ⟨h28, h⟩ := h
        refine r_iadd dX12_take_94 h28 ?_
        refine r_istore_n dX12_take_95 rfl (by decide) rfl ?_
        refine r_aload_n 2 dX12_take_96 rfl rfl ?_
        refine r_getf cls12 17 dX12_take_97 (by decide) fl_RX12_46 rfl h1 h2 ?_
        refine r_bipush dX12_take_100 (by decide) (by decide) ?_
        refine r_iload_n 3 dX12_take_102 rfl rfl ?_
        refine r_imul dX12_take_103 h20 ?_
        refine r_iload_n 4 dX12_take_104 rfl rfl ?_
        refine r_iadd dX12_take_105 h21 ?_
        refine r_iload 1 dX12_take_106 rfl ?_
        refine r_iast n23 dX12_take_108 h22 h24 h25 h26 ?_
        replace h := h _ rfl
        generalize upA H ((H (v0 : Int).toNat 17) : Int).toNat (up1 (H ((H (v0 : Int).toNat 17) : Int).toNat) (((6 * v1) + v3) : Int).toNat (H ((H (v0 : Int).toNat 25) : Int).toNat ((H ((H (v0 : Int).toNat 29) : Int).toNat (v3 : Int).toNat) : Int).toNat)) = H29 at h ⊢
        obtain ⟨h30, h⟩ := h
        refine r_iinc 4 dX12_take_109 (by decide) rfl h30 rfl ?_
        refine r_goto (tgt := 36) dX12_take_112 (by decide) ?_
        refine Fr.fewer [3, 4, 1, 0] rfl ?_
        exact h
      · replace h := h.2 c27
        refine r_iconst dX12_take_89 (by decide) (by decide) ?_
        refine r_goto (tgt := 94) dX12_take_90 (by decide) ?_
        obtain ⟨h31, h⟩ := h
        refine r_iadd dX12_take_94 h31 ?_
        refine r_istore_n dX12_take_95 rfl (by decide) rfl ?_
        refine r_aload_n 2 dX12_take_96 rfl rfl ?_
        refine r_getf cls12 17 dX12_take_97 (by decide) fl_RX12_46 rfl h1 h2 ?_
        refine r_bipush dX12_take_100 (by decide) (by decide) ?_
        refine r_iload_n 3 dX12_take_102 rfl rfl ?_
        refine r_imul dX12_take_103 h20 ?_
        refine r_iload_n 4 dX12_take_104 rfl rfl ?_
        refine r_iadd dX12_take_105 h21 ?_
        refine r_iload 1 dX12_take_106 rfl ?_
        refine r_iast n23 dX12_take_108 h22 h24 h25 h26 ?_
        replace h := h _ rfl
        generalize upA H ((H (v0 : Int).toNat 17) : Int).toNat (up1 (H ((H (v0 : Int).toNat 17) : Int).toNat) (((6 * v1) + v3) : Int).toNat (H ((H (v0 : Int).toNat 25) : Int).toNat ((H ((H (v0 : Int).toNat 29) : Int).toNat (v3 : Int).toNat) : Int).toNat)) = H32 at h ⊢
        obtain ⟨h33, h⟩ := h
        refine r_iinc 4 dX12_take_109 (by decide) rfl h33 rfl ?_
        refine r_goto (tgt := 36) dX12_take_112 (by decide) ?_
        refine Fr.fewer [3, 4, 1, 0] rfl ?_
        exact h
    · replace h := h.2 c14
      refine r_iconst dX12_take_55 (by decide) (by decide) ?_
      refine r_goto (tgt := 70) dX12_take_56 (by decide) ?_
      refine r_istore dX12_take_70 (by decide) rfl ?_
      refine r_iload_n 3 dX12_take_72 rfl rfl ?_
      refine r_aload_n 1 dX12_take_73 rfl rfl ?_
      refine r_getf cls12 17 dX12_take_74 (by decide) fl_RX12_46 rfl h1 h2 ?_
      refine r_bipush dX12_take_77 (by decide) (by decide) ?_
      refine r_iload_n 2 dX12_take_79 rfl rfl ?_
      obtain ⟨h34, h⟩ := h
      refine r_imul dX12_take_80 h34 ?_
      refine r_iload_n 4 dX12_take_81 rfl rfl ?_
      obtain ⟨h35, h⟩ := h
      refine r_iadd dX12_take_82 h35 ?_
      obtain ⟨h36, h⟩ := h
      obtain ⟨n37, h⟩ := h
      obtain ⟨h38, h⟩ := h
      obtain ⟨h39, h⟩ := h
      obtain ⟨h40, h⟩ := h
      refine r_iald n37 dX12_take_83 h36 h38 h39 h40 ?_
      refine r_iload 0 dX12_take_84 rfl ?_
      refine r_icmp_ne (tgt := 93) dX12_take_86 (by decide) (fun c41 => ?_) (fun c41 => ?_)
      · replace h := h.1 c41
        refine r_iconst dX12_take_93 (by decide) (by decide) ?_
        obtain ⟨h42, h⟩ := h
        refine r_iadd dX12_take_94 h42 ?_
        refine r_istore_n dX12_take_95 rfl (by decide) rfl ?_
        refine r_aload_n 2 dX12_take_96 rfl rfl ?_
        refine r_getf cls12 17 dX12_take_97 (by decide) fl_RX12_46 rfl h1 h2 ?_
        refine r_bipush dX12_take_100 (by decide) (by decide) ?_
        refine r_iload_n 3 dX12_take_102 rfl rfl ?_
        refine r_imul dX12_take_103 h34 ?_
        refine r_iload_n 4 dX12_take_104 rfl rfl ?_
        refine r_iadd dX12_take_105 h35 ?_
        refine r_iload 1 dX12_take_106 rfl ?_
        refine r_iast n37 dX12_take_108 h36 h38 h39 h40 ?_
        replace h := h _ rfl
        generalize upA H ((H (v0 : Int).toNat 17) : Int).toNat (up1 (H ((H (v0 : Int).toNat 17) : Int).toNat) (((6 * v1) + v3) : Int).toNat 0) = H43 at h ⊢
        obtain ⟨h44, h⟩ := h
        refine r_iinc 4 dX12_take_109 (by decide) rfl h44 rfl ?_
        refine r_goto (tgt := 36) dX12_take_112 (by decide) ?_
        refine Fr.fewer [3, 4, 1, 0] rfl ?_
        exact h
      · replace h := h.2 c41
        refine r_iconst dX12_take_89 (by decide) (by decide) ?_
        refine r_goto (tgt := 94) dX12_take_90 (by decide) ?_
        obtain ⟨h45, h⟩ := h
        refine r_iadd dX12_take_94 h45 ?_
        refine r_istore_n dX12_take_95 rfl (by decide) rfl ?_
        refine r_aload_n 2 dX12_take_96 rfl rfl ?_
        refine r_getf cls12 17 dX12_take_97 (by decide) fl_RX12_46 rfl h1 h2 ?_
        refine r_bipush dX12_take_100 (by decide) (by decide) ?_
        refine r_iload_n 3 dX12_take_102 rfl rfl ?_
        refine r_imul dX12_take_103 h34 ?_
        refine r_iload_n 4 dX12_take_104 rfl rfl ?_
        refine r_iadd dX12_take_105 h35 ?_
        refine r_iload 1 dX12_take_106 rfl ?_
        refine r_iast n37 dX12_take_108 h36 h38 h39 h40 ?_
        replace h := h _ rfl
        generalize upA H ((H (v0 : Int).toNat 17) : Int).toNat (up1 (H ((H (v0 : Int).toNat 17) : Int).toNat) (((6 * v1) + v3) : Int).toNat 0) = H46 at h ⊢
        obtain ⟨h47, h⟩ := h
        refine r_iinc 4 dX12_take_109 (by decide) rfl h47 rfl ?_
        refine r_goto (tgt := 36) dX12_take_112 (by decide) ?_
        refine Fr.fewer [3, 4, 1, 0] rfl ?_
        exact h
set_option maxHeartbeats 4000000 in
set_option maxRecDepth 20000 in
theorem eX12_take {d : Nat} {K : Shp} {H : Mem} {q : Int → Mem → Prop} {v0 v1 : Int} (h : inI v1 → Rng K H → FX12_take_0 d K H q v0 v1) : Ci mX12_take (d + 1) [(2, v0), (0, v1)] K H q := Call.of rfl (Nat.le_of_ble_eq_true rfl) (fun o r => h (o (0, v1) (by simp)) r)
def FX12_span_0 (d : Nat) (K : Shp) (H : Mem) (q : Int → Mem → Prop) (v0 : Int) (v1 : Int) (v2 : Int) : Prop := Fr mX12_span (d + 1) 0 0 none 0 [(0, (2, v0)), (1, (0, v1)), (2, (0, v2))] [] K H (qi K q)
set_option maxHeartbeats 4000000 in
set_option maxRecDepth 20000 in
theorem bX12_span_0 {d : Nat} {K : Shp} {H : Mem} {q : Int → Mem → Prop} {v0 v1 v2 : Int} (h : Ci mX12_isSection d [(0, v2)] K H (fun x2 H1 => ((¬ (x2 : Int) = 0 → (((v1 : Int) < 2 → ((0 : Int) ≤ v0) ∧ (K[(v0 : Int).toNat]? = some (12, 51)) ∧ Ci mX12_refuse d [(2, v0), (0, 2)] K H1 (fun x8 H7 => q x8 H7)) ∧ (¬ (v1 : Int) < 2 → (((v1 : Int) ≤ 50 → ((0 : Int) ≤ v0) ∧ (K[(v0 : Int).toNat]? = some (12, 51)) ∧ ((¬ ((H1 (v0 : Int).toNat 37) : Int) = 5 → ((0 : Int) ≤ (H1 (v0 : Int).toNat 31)) ∧ ∃ n14 : Nat, (K[((H1 (v0 : Int).toNat 31) : Int).toNat]? = some (20, n14)) ∧ ((0 : Int) ≤ (H1 (v0 : Int).toNat 37)) ∧ (((H1 (v0 : Int).toNat 37) : Int) < n14) ∧ ∀ H18 : Mem, H18 = upA H1 ((H1 (v0 : Int).toNat 31) : Int).toNat (up1 (H1 ((H1 (v0 : Int).toNat 31) : Int).toNat) ((H1 (v0 : Int).toNat 37) : Int).toNat v1) → ((0 : Int) ≤ (H18 (v0 : Int).toNat 32)) ∧ ∃ n20 : Nat, (K[((H18 (v0 : Int).toNat 32) : Int).toNat]? = some (20, n20)) ∧ ((0 : Int) ≤ (H18 (v0 : Int).toNat 37)) ∧ (((H18 (v0 : Int).toNat 37) : Int) < n20) ∧ ∀ H24 : Mem, H24 = upA H18 ((H18 (v0 : Int).toNat 32) : Int).toNat (up1 (H18 ((H18 (v0 : Int).toNat 32) : Int).toNat) ((H18 (v0 : Int).toNat 37) : Int).toNat v2) → ((0 : Int) ≤ (H24 (v0 : Int).toNat 33)) ∧ ∃ n26 : Nat, (K[((H24 (v0 : Int).toNat 33) : Int).toNat]? = some (20, n26)) ∧ ((0 : Int) ≤ (H24 (v0 : Int).toNat 37)) ∧ (((H24 (v0 : Int).toNat 37) : Int) < n26) ∧ ∀ H30 : Mem, H30 = upA H24 ((H24 (v0 : Int).toNat 33) : Int).toNat (up1 (H24 ((H24 (v0 : Int).toNat 33) : Int).toNat) ((H24 (v0 : Int).toNat 37) : Int).toNat 0) → (inI ((H30 (v0 : Int).toNat 37) + 1)) ∧ ∀ H32 : Mem, H32 = upA H30 (v0 : Int).toNat (up1 (H30 (v0 : Int).toNat) 37 ((H30 (v0 : Int).toNat 37) + 1)) → ∀ H33 : Mem, H33 = upA H32 (v0 : Int).toNat (up1 (H32 (v0 : Int).toNat) 0 0) → (inI ((H33 (v0 : Int).toNat 37) - 1)) ∧ q ((H33 (v0 : Int).toNat 37) - 1) H33) ∧ (((H1 (v0 : Int).toNat 37) : Int) = 5 → Ci mX12_refuse d [(2, v0), (0, 3)] K H1 (fun x36 H35 => q x36 H35)))) ∧ (¬ (v1 : Int) ≤ 50 → ((0 : Int) ≤ v0) ∧ (K[(v0 : Int).toNat]? = some (12, 51)) ∧ Ci mX12_refuse d [(2, v0), (0, 2)] K H1 (fun x40 H39 => q x40 H39)))))) ∧ ((x2 : Int) = 0 → ((0 : Int) ≤ v0) ∧ (K[(v0 : Int).toNat]? = some (12, 51)) ∧ Ci mX12_refuse d [(2, v0), (0, 1)] K H1 (fun x44 H43 => q x44 H43))))) : FX12_span_0 d K H q (v0) (v1) (v2) := by
  unfold FX12_span_0
  refine r_iload_n 2 dX12_span_0 rfl rfl ?_
  refine r_invS (M := mX12_span) (As := [(0, v2)]) (st := []) (mc := 0) (ms := 0) (fc := 0) (fs := 0) h ok_X12_isSection sm_X12_isSection ml_RX12_177 dX12_span_1 rfl (Nat.le_of_ble_eq_true rfl) rfl ?_
  rintro r K1 H1 ⟨rfl, x2, rfl, h⟩ -
  show Fr mX12_span (d + 1) 0 0 none 4 [(0, (2, v0)), (1, (0, v1)), (2, (0, v2))] [(0, x2)] _ H1 _
  refine r_if_ne (tgt := 13) dX12_span_4 (by decide) (fun c3 => ?_) (fun c3 => ?_)
  · replace h := h.1 c3
    refine r_iload_n 1 dX12_span_13 rfl rfl ?_
    refine r_iconst dX12_span_14 (by decide) (by decide) ?_
    refine r_icmp_lt (tgt := 24) dX12_span_15 (by decide) (fun c4 => ?_) (fun c4 => ?_)
    · replace h := h.1 c4
      refine r_aload_n 0 dX12_span_24 rfl rfl ?_
      refine r_iconst dX12_span_25 (by decide) (by decide) ?_
      obtain ⟨h5, h⟩ := h
      obtain ⟨h6, h⟩ := h
      refine r_invV (M := mX12_span) (As := [(0, 2)]) (st := []) (X := v0) (mc := 0) (ms := 0) (fc := 0) (fs := 0) h ok_X12_refuse cls12 im_X12_refuse se_X12_refuse ml_RX12_184 dX12_span_26 rfl h5 h6 (Nat.le_of_ble_eq_true rfl) rfl ?_
      rintro r K1 H7 ⟨rfl, x8, rfl, h⟩ -
      show Fr mX12_span (d + 1) 0 0 none 29 [(0, (2, v0)), (1, (0, v1)), (2, (0, v2))] [(0, x8)] _ H7 _
      exact r_iret dX12_span_29 rfl ⟨rfl, _, rfl, h⟩
    · replace h := h.2 c4
      refine r_iload_n 1 dX12_span_18 rfl rfl ?_
      refine r_bipush dX12_span_19 (by decide) (by decide) ?_
      refine r_icmp_le (tgt := 30) dX12_span_21 (by decide) (fun c9 => ?_) (fun c9 => ?_)
      · replace h := h.1 c9
        refine r_aload_n 0 dX12_span_30 rfl rfl ?_
        obtain ⟨h10, h⟩ := h
        obtain ⟨h11, h⟩ := h
        refine r_getf cls12 37 dX12_span_31 (by decide) fl_RX12_261 rfl h10 h11 ?_
        refine r_iconst dX12_span_34 (by decide) (by decide) ?_
        refine r_icmp_ne (tgt := 44) dX12_span_35 (by decide) (fun c12 => ?_) (fun c12 => ?_)
        · replace h := h.1 c12
          refine r_aload_n 0 dX12_span_44 rfl rfl ?_
          refine r_getf cls12 31 dX12_span_45 (by decide) fl_RX12_67 rfl h10 h11 ?_
          refine r_aload_n 0 dX12_span_48 rfl rfl ?_
          refine r_getf cls12 37 dX12_span_49 (by decide) fl_RX12_261 rfl h10 h11 ?_
          refine r_iload_n 1 dX12_span_52 rfl rfl ?_
          obtain ⟨h13, h⟩ := h
          obtain ⟨n14, h⟩ := h
          obtain ⟨h15, h⟩ := h
          obtain ⟨h16, h⟩ := h
          obtain ⟨h17, h⟩ := h
          refine r_iast n14 dX12_span_53 h13 h15 h16 h17 ?_
          replace h := h _ rfl
          generalize upA H1 ((H1 (v0 : Int).toNat 31) : Int).toNat (up1 (H1 ((H1 (v0 : Int).toNat 31) : Int).toNat) ((H1 (v0 : Int).toNat 37) : Int).toNat v1) = H18 at h ⊢
          refine r_aload_n 0 dX12_span_54 rfl rfl ?_
          refine r_getf cls12 32 dX12_span_55 (by decide) fl_RX12_70 rfl h10 h11 ?_
          refine r_aload_n 0 dX12_span_58 rfl rfl ?_
          refine r_getf cls12 37 dX12_span_59 (by decide) fl_RX12_261 rfl h10 h11 ?_
          refine r_iload_n 2 dX12_span_62 rfl rfl ?_
          obtain ⟨h19, h⟩ := h
          obtain ⟨n20, h⟩ := h
          obtain ⟨h21, h⟩ := h
          obtain ⟨h22, h⟩ := h
          obtain ⟨h23, h⟩ := h
          refine r_iast n20 dX12_span_63 h19 h21 h22 h23 ?_
          replace h := h _ rfl
          generalize upA H18 ((H18 (v0 : Int).toNat 32) : Int).toNat (up1 (H18 ((H18 (v0 : Int).toNat 32) : Int).toNat) ((H18 (v0 : Int).toNat 37) : Int).toNat v2) = H24 at h ⊢
          refine r_aload_n 0 dX12_span_64 rfl rfl ?_
          refine r_getf cls12 33 dX12_span_65 (by decide) fl_RX12_73 rfl h10 h11 ?_
          refine r_aload_n 0 dX12_span_68 rfl rfl ?_
          refine r_getf cls12 37 dX12_span_69 (by decide) fl_RX12_261 rfl h10 h11 ?_
          refine r_iconst dX12_span_72 (by decide) (by decide) ?_
          obtain ⟨h25, h⟩ := h
          obtain ⟨n26, h⟩ := h
          obtain ⟨h27, h⟩ := h
          obtain ⟨h28, h⟩ := h
          obtain ⟨h29, h⟩ := h
          refine r_iast n26 dX12_span_73 h25 h27 h28 h29 ?_
          replace h := h _ rfl
          generalize upA H24 ((H24 (v0 : Int).toNat 33) : Int).toNat (up1 (H24 ((H24 (v0 : Int).toNat 33) : Int).toNat) ((H24 (v0 : Int).toNat 37) : Int).toNat 0) = H30 at h ⊢
          refine r_aload_n 0 dX12_span_74 rfl rfl ?_
          refine r_dup dX12_span_75 (show (2 : Nat) ≠ 1 by decide) ?_
          refine r_getf cls12 37 dX12_span_76 (by decide) fl_RX12_261 rfl h10 h11 ?_
          refine r_iconst dX12_span_79 (by decide) (by decide) ?_
          obtain ⟨h31, h⟩ := h
          refine r_iadd dX12_span_80 h31 ?_
          refine r_putf cls12 37 dX12_span_81 (by decide) rfl fl_RX12_261 rfl h10 h11 (fun o => o) ?_
          replace h := h _ rfl
          generalize upA H30 (v0 : Int).toNat (up1 (H30 (v0 : Int).toNat) 37 ((H30 (v0 : Int).toNat 37) + 1)) = H32 at h ⊢
          refine r_aload_n 0 dX12_span_84 rfl rfl ?_
          refine r_iconst dX12_span_85 (by decide) (by decide) ?_
          refine r_putf cls12 0 dX12_span_86 (by decide) rfl fl_RX12_89 rfl h10 h11 (fun o => o) ?_
          replace h := h _ rfl
          generalize upA H32 (v0 : Int).toNat (up1 (H32 (v0 : Int).toNat) 0 0) = H33 at h ⊢
          refine r_aload_n 0 dX12_span_89 rfl rfl ?_
          refine r_getf cls12 37 dX12_span_90 (by decide) fl_RX12_261 rfl h10 h11 ?_
          refine r_iconst dX12_span_93 (by decide) (by decide) ?_
          obtain ⟨h34, h⟩ := h
          refine r_isub dX12_span_94 h34 ?_
          exact r_iret dX12_span_95 rfl ⟨rfl, _, rfl, h⟩
        · replace h := h.2 c12
          refine r_aload_n 0 dX12_span_38 rfl rfl ?_
          refine r_iconst dX12_span_39 (by decide) (by decide) ?_
          refine r_invV (M := mX12_span) (As := [(0, 3)]) (st := []) (X := v0) (mc := 0) (ms := 0) (fc := 0) (fs := 0) h ok_X12_refuse cls12 im_X12_refuse se_X12_refuse ml_RX12_184 dX12_span_40 rfl h10 h11 (Nat.le_of_ble_eq_true rfl) rfl ?_
          rintro r K1 H35 ⟨rfl, x36, rfl, h⟩ -
          show Fr mX12_span (d + 1) 0 0 none 43 [(0, (2, v0)), (1, (0, v1)), (2, (0, v2))] [(0, x36)] _ H35 _
          exact r_iret dX12_span_43 rfl ⟨rfl, _, rfl, h⟩
      · replace h := h.2 c9
        refine r_aload_n 0 dX12_span_24 rfl rfl ?_
        refine r_iconst dX12_span_25 (by decide) (by decide) ?_
        obtain ⟨h37, h⟩ := h
        obtain ⟨h38, h⟩ := h
        refine r_invV (M := mX12_span) (As := [(0, 2)]) (st := []) (X := v0) (mc := 0) (ms := 0) (fc := 0) (fs := 0) h ok_X12_refuse cls12 im_X12_refuse se_X12_refuse ml_RX12_184 dX12_span_26 rfl h37 h38 (Nat.le_of_ble_eq_true rfl) rfl ?_
        rintro r K1 H39 ⟨rfl, x40, rfl, h⟩ -
        show Fr mX12_span (d + 1) 0 0 none 29 [(0, (2, v0)), (1, (0, v1)), (2, (0, v2))] [(0, x40)] _ H39 _
        exact r_iret dX12_span_29 rfl ⟨rfl, _, rfl, h⟩
  · replace h := h.2 c3
    refine r_aload_n 0 dX12_span_7 rfl rfl ?_
    refine r_iconst dX12_span_8 (by decide) (by decide) ?_
    obtain ⟨h41, h⟩ := h
    obtain ⟨h42, h⟩ := h
    refine r_invV (M := mX12_span) (As := [(0, 1)]) (st := []) (X := v0) (mc := 0) (ms := 0) (fc := 0) (fs := 0) h ok_X12_refuse cls12 im_X12_refuse se_X12_refuse ml_RX12_184 dX12_span_9 rfl h41 h42 (Nat.le_of_ble_eq_true rfl) rfl ?_
    rintro r K1 H43 ⟨rfl, x44, rfl, h⟩ -
    show Fr mX12_span (d + 1) 0 0 none 12 [(0, (2, v0)), (1, (0, v1)), (2, (0, v2))] [(0, x44)] _ H43 _
    exact r_iret dX12_span_12 rfl ⟨rfl, _, rfl, h⟩
set_option maxHeartbeats 4000000 in
set_option maxRecDepth 20000 in
theorem eX12_span {d : Nat} {K : Shp} {H : Mem} {q : Int → Mem → Prop} {v0 v1 v2 : Int} (h : inI v1 → inI v2 → Rng K H → FX12_span_0 d K H q v0 v1 v2) : Ci mX12_span (d + 1) [(2, v0), (0, v1), (0, v2)] K H q := Call.of rfl (Nat.le_of_ble_eq_true rfl) (fun o r => h (o (0, v1) (by simp)) (o (0, v2) (by simp)) r)
def FX12_away_0 (d : Nat) (K : Shp) (H : Mem) (q : Int → Mem → Prop) (v0 : Int) : Prop := Fr mX12_away (d + 1) 0 0 none 0 [(0, (2, v0))] [] K H (qi K q)
set_option maxHeartbeats 4000000 in
set_option maxRecDepth 20000 in
theorem bX12_away_0 {d : Nat} {K : Shp} {H : Mem} {q : Int → Mem → Prop} {v0 : Int} (h : ((0 : Int) ≤ v0) ∧ (K[(v0 : Int).toNat]? = some (12, 51)) ∧ ∀ H3 : Mem, H3 = upA H (v0 : Int).toNat (up1 (H (v0 : Int).toNat) 37 0) → Ci mX12_is d [(2, v0), (0, 0)] K H3 (fun x5 H4 => ((x5 : Int) = 0 ∨ (x5 : Int) = 1) ∧ q x5 H4)) : FX12_away_0 d K H q (v0) := by
  unfold FX12_away_0
  refine r_aload_n 0 dX12_away_0 rfl rfl ?_
  refine r_iconst dX12_away_1 (by decide) (by decide) ?_
  obtain ⟨h1, h⟩ := h
  obtain ⟨h2, h⟩ := h
  refine r_putf cls12 37 dX12_away_2 (by decide) rfl fl_RX12_261 rfl h1 h2 (fun o => o) ?_
  replace h := h _ rfl
  generalize upA H (v0 : Int).toNat (up1 (H (v0 : Int).toNat) 37 0) = H3 at h ⊢
  refine r_aload_n 0 dX12_away_5 rfl rfl ?_
  refine r_iconst dX12_away_6 (by decide) (by decide) ?_
  refine r_invV (M := mX12_away) (As := [(0, 0)]) (st := []) (X := v0) (mc := 0) (ms := 0) (fc := 0) (fs := 0) h ok_X12_is cls12 im_X12_is se_X12_is ml_RX12_181 dX12_away_7 rfl h1 h2 (Nat.le_of_ble_eq_true rfl) rfl ?_
  rintro r K1 H4 ⟨rfl, x5, rfl, h⟩ -
  show Fr mX12_away (d + 1) 0 0 none 10 [(0, (2, v0))] [(0, x5)] _ H4 _
  obtain ⟨h6, h⟩ := h
  exact r_zret dX12_away_10 rfl h6 ⟨rfl, _, rfl, h⟩
set_option maxHeartbeats 4000000 in
set_option maxRecDepth 20000 in
theorem eX12_away {d : Nat} {K : Shp} {H : Mem} {q : Int → Mem → Prop} {v0 : Int} (h : Rng K H → FX12_away_0 d K H q v0) : Ci mX12_away (d + 1) [(2, v0)] K H q := Call.of rfl (Nat.le_of_ble_eq_true rfl) (fun o r => h  r)
def FX12_hold_0 (d : Nat) (K : Shp) (H : Mem) (q : Int → Mem → Prop) (v0 : Int) (v1 : Int) (v2 : Int) : Prop := Fr mX12_hold (d + 1) 0 0 none 0 [(0, (2, v0)), (1, (0, v1)), (2, (0, v2))] [] K H (qi K q)
set_option maxHeartbeats 4000000 in
set_option maxRecDepth 20000 in
theorem bX12_hold_0 {d : Nat} {K : Shp} {H : Mem} {q : Int → Mem → Prop} {v0 v1 v2 : Int} (h : (((v1 : Int) < 0 → ((0 : Int) ≤ v0) ∧ (K[(v0 : Int).toNat]? = some (12, 51)) ∧ Ci mX12_is d [(2, v0), (0, 2)] K H (fun x5 H4 => ((x5 : Int) = 0 ∨ (x5 : Int) = 1) ∧ q x5 H4)) ∧ (¬ (v1 : Int) < 0 → (((v1 : Int) ≤ 1 → ((0 : Int) ≤ v0) ∧ (K[(v0 : Int).toNat]? = some (12, 51)) ∧ ((0 : Int) ≤ (H (v0 : Int).toNat 36)) ∧ ∃ n11 : Nat, (K[((H (v0 : Int).toNat 36) : Int).toNat]? = some (22, n11)) ∧ ((0 : Int) ≤ v1) ∧ ((v1 : Int) < n11) ∧ ((¬ ((H ((H (v0 : Int).toNat 36) : Int).toNat (v1 : Int).toNat) : Int) = v2 → ((v2 : Int) = 0 ∨ (v2 : Int) = 1) ∧ ∀ H17 : Mem, H17 = upA H ((H (v0 : Int).toNat 36) : Int).toNat (up1 (H ((H (v0 : Int).toNat 36) : Int).toNat) (v1 : Int).toNat v2) → Ci mX12_is d [(2, v0), (0, 0)] K H17 (fun x19 H18 => ((x19 : Int) = 0 ∨ (x19 : Int) = 1) ∧ q x19 H18)) ∧ (((H ((H (v0 : Int).toNat 36) : Int).toNat (v1 : Int).toNat) : Int) = v2 → Ci mX12_is d [(2, v0), (0, 8)] K H (fun x22 H21 => ((x22 : Int) = 0 ∨ (x22 : Int) = 1) ∧ q x22 H21)))) ∧ (¬ (v1 : Int) ≤ 1 → ((0 : Int) ≤ v0) ∧ (K[(v0 : Int).toNat]? = some (12, 51)) ∧ Ci mX12_is d [(2, v0), (0, 2)] K H (fun x27 H26 => ((x27 : Int) = 0 ∨ (x27 : Int) = 1) ∧ q x27 H26)))))) : FX12_hold_0 d K H q (v0) (v1) (v2) := by
  unfold FX12_hold_0
  refine r_iload_n 1 dX12_hold_0 rfl rfl ?_
  refine r_if_lt (tgt := 9) dX12_hold_1 (by decide) (fun c1 => ?_) (fun c1 => ?_)
  · replace h := h.1 c1
    refine r_aload_n 0 dX12_hold_9 rfl rfl ?_
    refine r_iconst dX12_hold_10 (by decide) (by decide) ?_
    obtain ⟨h2, h⟩ := h
    obtain ⟨h3, h⟩ := h
    refine r_invV (M := mX12_hold) (As := [(0, 2)]) (st := []) (X := v0) (mc := 0) (ms := 0) (fc := 0) (fs := 0) h ok_X12_is cls12 im_X12_is se_X12_is ml_RX12_181 dX12_hold_11 rfl h2 h3 (Nat.le_of_ble_eq_true rfl) rfl ?_
    rintro r K1 H4 ⟨rfl, x5, rfl, h⟩ -
    show Fr mX12_hold (d + 1) 0 0 none 14 [(0, (2, v0)), (1, (0, v1)), (2, (0, v2))] [(0, x5)] _ H4 _
    obtain ⟨h6, h⟩ := h
    exact r_zret dX12_hold_14 rfl h6 ⟨rfl, _, rfl, h⟩
  · replace h := h.2 c1
    refine r_iload_n 1 dX12_hold_4 rfl rfl ?_
    refine r_iconst dX12_hold_5 (by decide) (by decide) ?_
    refine r_icmp_le (tgt := 15) dX12_hold_6 (by decide) (fun c7 => ?_) (fun c7 => ?_)
    · replace h := h.1 c7
      refine r_aload_n 0 dX12_hold_15 rfl rfl ?_
      obtain ⟨h8, h⟩ := h
      obtain ⟨h9, h⟩ := h
      refine r_getf cls12 36 dX12_hold_16 (by decide) fl_RX12_82 rfl h8 h9 ?_
      refine r_iload_n 1 dX12_hold_19 rfl rfl ?_
      obtain ⟨h10, h⟩ := h
      obtain ⟨n11, h⟩ := h
      obtain ⟨h12, h⟩ := h
      obtain ⟨h13, h⟩ := h
      obtain ⟨h14, h⟩ := h
      refine r_zald n11 dX12_hold_20 h10 h12 h13 h14 ?_
      refine r_iload_n 2 dX12_hold_21 rfl rfl ?_
      refine r_icmp_ne (tgt := 32) dX12_hold_22 (by decide) (fun c15 => ?_) (fun c15 => ?_)
      · replace h := h.1 c15
        refine r_aload_n 0 dX12_hold_32 rfl rfl ?_
        refine r_getf cls12 36 dX12_hold_33 (by decide) fl_RX12_82 rfl h8 h9 ?_
        refine r_iload_n 1 dX12_hold_36 rfl rfl ?_
        refine r_iload_n 2 dX12_hold_37 rfl rfl ?_
        obtain ⟨h16, h⟩ := h
        refine r_zast n11 dX12_hold_38 h10 h12 h13 h14 h16 ?_
        replace h := h _ rfl
        generalize upA H ((H (v0 : Int).toNat 36) : Int).toNat (up1 (H ((H (v0 : Int).toNat 36) : Int).toNat) (v1 : Int).toNat v2) = H17 at h ⊢
        refine r_aload_n 0 dX12_hold_39 rfl rfl ?_
        refine r_iconst dX12_hold_40 (by decide) (by decide) ?_
        refine r_invV (M := mX12_hold) (As := [(0, 0)]) (st := []) (X := v0) (mc := 0) (ms := 0) (fc := 0) (fs := 0) h ok_X12_is cls12 im_X12_is se_X12_is ml_RX12_181 dX12_hold_41 rfl h8 h9 (Nat.le_of_ble_eq_true rfl) rfl ?_
        rintro r K1 H18 ⟨rfl, x19, rfl, h⟩ -
        show Fr mX12_hold (d + 1) 0 0 none 44 [(0, (2, v0)), (1, (0, v1)), (2, (0, v2))] [(0, x19)] _ H18 _
        obtain ⟨h20, h⟩ := h
        exact r_zret dX12_hold_44 rfl h20 ⟨rfl, _, rfl, h⟩
      · replace h := h.2 c15
        refine r_aload_n 0 dX12_hold_25 rfl rfl ?_
        refine r_bipush dX12_hold_26 (by decide) (by decide) ?_
        refine r_invV (M := mX12_hold) (As := [(0, 8)]) (st := []) (X := v0) (mc := 0) (ms := 0) (fc := 0) (fs := 0) h ok_X12_is cls12 im_X12_is se_X12_is ml_RX12_181 dX12_hold_28 rfl h8 h9 (Nat.le_of_ble_eq_true rfl) rfl ?_
        rintro r K1 H21 ⟨rfl, x22, rfl, h⟩ -
        show Fr mX12_hold (d + 1) 0 0 none 31 [(0, (2, v0)), (1, (0, v1)), (2, (0, v2))] [(0, x22)] _ H21 _
        obtain ⟨h23, h⟩ := h
        exact r_zret dX12_hold_31 rfl h23 ⟨rfl, _, rfl, h⟩
    · replace h := h.2 c7
      refine r_aload_n 0 dX12_hold_9 rfl rfl ?_
      refine r_iconst dX12_hold_10 (by decide) (by decide) ?_
      obtain ⟨h24, h⟩ := h
      obtain ⟨h25, h⟩ := h
      refine r_invV (M := mX12_hold) (As := [(0, 2)]) (st := []) (X := v0) (mc := 0) (ms := 0) (fc := 0) (fs := 0) h ok_X12_is cls12 im_X12_is se_X12_is ml_RX12_181 dX12_hold_11 rfl h24 h25 (Nat.le_of_ble_eq_true rfl) rfl ?_
      rintro r K1 H26 ⟨rfl, x27, rfl, h⟩ -
      show Fr mX12_hold (d + 1) 0 0 none 14 [(0, (2, v0)), (1, (0, v1)), (2, (0, v2))] [(0, x27)] _ H26 _
      obtain ⟨h28, h⟩ := h
      exact r_zret dX12_hold_14 rfl h28 ⟨rfl, _, rfl, h⟩
set_option maxHeartbeats 4000000 in
set_option maxRecDepth 20000 in
theorem eX12_hold {d : Nat} {K : Shp} {H : Mem} {q : Int → Mem → Prop} {v0 v1 v2 : Int} (h : inI v1 → inI v2 → Rng K H → FX12_hold_0 d K H q v0 v1 v2) : Ci mX12_hold (d + 1) [(2, v0), (0, v1), (0, v2)] K H q := Call.of rfl (Nat.le_of_ble_eq_true rfl) (fun o r => h (o (0, v1) (by simp)) (o (0, v2) (by simp)) r)
def FX12_isSpan_0 (d : Nat) (K : Shp) (H : Mem) (q : Int → Mem → Prop) (v0 : Int) (v1 : Int) : Prop := Fr mX12_isSpan d 0 0 none 0 [(0, (2, v0)), (1, (0, v1))] [] K H (qi K q)
set_option maxHeartbeats 4000000 in
set_option maxRecDepth 20000 in
theorem bX12_isSpan_0 {d : Nat} {K : Shp} {H : Mem} {q : Int → Mem → Prop} {v0 v1 : Int} (h : (((v1 : Int) < 0 → q 0 H) ∧ (¬ (v1 : Int) < 0 → ((0 : Int) ≤ v0) ∧ (K[(v0 : Int).toNat]? = some (12, 51)) ∧ ((¬ (v1 : Int) < (H (v0 : Int).toNat 37) → q 0 H) ∧ ((v1 : Int) < (H (v0 : Int).toNat 37) → q 1 H))))) : FX12_isSpan_0 d K H q (v0) (v1) := by
  unfold FX12_isSpan_0
  refine r_iload_n 1 dX12_isSpan_0 rfl rfl ?_
  refine r_if_lt (tgt := 16) dX12_isSpan_1 (by decide) (fun c1 => ?_) (fun c1 => ?_)
  · replace h := h.1 c1
    refine r_iconst dX12_isSpan_16 (by decide) (by decide) ?_
    exact r_zret dX12_isSpan_17 rfl (Or.inl rfl) ⟨rfl, _, rfl, h⟩
  · replace h := h.2 c1
    refine r_iload_n 1 dX12_isSpan_4 rfl rfl ?_
    refine r_aload_n 0 dX12_isSpan_5 rfl rfl ?_
    obtain ⟨h2, h⟩ := h
    obtain ⟨h3, h⟩ := h
    refine r_getf cls12 37 dX12_isSpan_6 (by decide) fl_RX12_261 rfl h2 h3 ?_
    refine r_icmp_ge (tgt := 16) dX12_isSpan_9 (by decide) (fun c4 => ?_) (fun c4 => ?_)
    · replace h := h.1 c4
      refine r_iconst dX12_isSpan_16 (by decide) (by decide) ?_
      exact r_zret dX12_isSpan_17 rfl (Or.inl rfl) ⟨rfl, _, rfl, h⟩
    · replace h := h.2 c4
      refine r_iconst dX12_isSpan_12 (by decide) (by decide) ?_
      refine r_goto (tgt := 17) dX12_isSpan_13 (by decide) ?_
      exact r_zret dX12_isSpan_17 rfl (Or.inr rfl) ⟨rfl, _, rfl, h⟩
set_option maxHeartbeats 4000000 in
set_option maxRecDepth 20000 in
theorem eX12_isSpan {d : Nat} {K : Shp} {H : Mem} {q : Int → Mem → Prop} {v0 v1 : Int} (h : inI v1 → Rng K H → FX12_isSpan_0 d K H q v0 v1) : Ci mX12_isSpan d [(2, v0), (0, v1)] K H q := Call.of rfl (Nat.le_of_ble_eq_true rfl) (fun o r => h (o (0, v1) (by simp)) r)
def FX12_load_0 (d : Nat) (K : Shp) (H : Mem) (q : Int → Mem → Prop) (v0 : Int) (v1 : Int) (v2 : Int) (v3 : Int) : Prop := Fr mX12_load (d + 1) 0 0 none 0 [(0, (2, v0)), (1, (0, v1)), (2, (0, v2)), (3, (0, v3))] [] K H (qi K q)
def FX12_load_66 (d : Nat) (K : Shp) (H : Mem) (q : Int → Mem → Prop) (v0 : Int) (v1 : Int) (v2 : Int) (v3 : Int) (v4 : Int) : Prop := Fr mX12_load (d + 1) 0 0 none 66 [(0, (2, v0)), (1, (0, v1)), (2, (0, v2)), (3, (0, v3)), (4, (0, v4))] [] K H (qi K q)
set_option maxHeartbeats 4000000 in
set_option maxRecDepth 20000 in
theorem bX12_load_0 {d : Nat} {K : Shp} {H : Mem} {q : Int → Mem → Prop} {v0 v1 v2 v3 : Int} (h : ((0 : Int) ≤ v0) ∧ (K[(v0 : Int).toNat]? = some (12, 51)) ∧ Ci mX12_isSpan d [(2, v0), (0, v1)] K H (fun x4 H3 => ((¬ (x4 : Int) = 0 → (((v2 : Int) < 1 → Ci mX12_refuse d [(2, v0), (0, 2)] K H3 (fun x8 H7 => q x8 H7)) ∧ (¬ (v2 : Int) < 1 → ((0 : Int) ≤ (H3 (v0 : Int).toNat 31)) ∧ ∃ n10 : Nat, (K[((H3 (v0 : Int).toNat 31) : Int).toNat]? = some (20, n10)) ∧ ((0 : Int) ≤ v1) ∧ ((v1 : Int) < n10) ∧ ((¬ (v2 : Int) < (H3 ((H3 (v0 : Int).toNat 31) : Int).toNat (v1 : Int).toNat) → Ci mX12_refuse d [(2, v0), (0, 2)] K H3 (fun x16 H15 => q x16 H15)) ∧ ((v2 : Int) < (H3 ((H3 (v0 : Int).toNat 31) : Int).toNat (v1 : Int).toNat) → (((v3 : Int) < 1 → Ci mX12_refuse d [(2, v0), (0, 2)] K H3 (fun x19 H18 => q x19 H18)) ∧ (¬ (v3 : Int) < 1 → (((v3 : Int) ≤ 1000 → ((0 : Int) ≤ (H3 (v0 : Int).toNat 33)) ∧ ∃ n22 : Nat, (K[((H3 (v0 : Int).toNat 33) : Int).toNat]? = some (20, n22)) ∧ ((v1 : Int) < n22) ∧ ((¬ ((H3 ((H3 (v0 : Int).toNat 33) : Int).toNat (v1 : Int).toNat) : Int) = 2 → FX12_load_66 d K H3 q (v0) (v1) (v2) (v3) (0)) ∧ (((H3 ((H3 (v0 : Int).toNat 33) : Int).toNat (v1 : Int).toNat) : Int) = 2 → Ci mX12_refuse d [(2, v0), (0, 3)] K H3 (fun x27 H26 => q x27 H26)))) ∧ (¬ (v3 : Int) ≤ 1000 → Ci mX12_refuse d [(2, v0), (0, 2)] K H3 (fun x29 H28 => q x29 H28)))))))))) ∧ ((x4 : Int) = 0 → Ci mX12_refuse d [(2, v0), (0, 1)] K H3 (fun x31 H30 => q x31 H30))))) : FX12_load_0 d K H q (v0) (v1) (v2) (v3) := by
  unfold FX12_load_0
  refine r_aload_n 0 dX12_load_0 rfl rfl ?_
  refine r_iload_n 1 dX12_load_1 rfl rfl ?_
  obtain ⟨h1, h⟩ := h
  obtain ⟨h2, h⟩ := h
  refine r_invV (M := mX12_load) (As := [(0, v1)]) (st := []) (X := v0) (mc := 0) (ms := 0) (fc := 0) (fs := 0) h ok_X12_isSpan cls12 im_X12_isSpan se_X12_isSpan ml_RX12_264 dX12_load_2 rfl h1 h2 (Nat.le_of_ble_eq_true rfl) rfl ?_
  rintro r K1 H3 ⟨rfl, x4, rfl, h⟩ -
  show Fr mX12_load (d + 1) 0 0 none 5 [(0, (2, v0)), (1, (0, v1)), (2, (0, v2)), (3, (0, v3))] [(0, x4)] _ H3 _
  refine r_if_ne (tgt := 14) dX12_load_5 (by decide) (fun c5 => ?_) (fun c5 => ?_)
  · replace h := h.1 c5
    refine r_iload_n 2 dX12_load_14 rfl rfl ?_
    refine r_iconst dX12_load_15 (by decide) (by decide) ?_
    refine r_icmp_lt (tgt := 41) dX12_load_16 (by decide) (fun c6 => ?_) (fun c6 => ?_)
    · replace h := h.1 c6
      refine r_aload_n 0 dX12_load_41 rfl rfl ?_
      refine r_iconst dX12_load_42 (by decide) (by decide) ?_
      refine r_invV (M := mX12_load) (As := [(0, 2)]) (st := []) (X := v0) (mc := 0) (ms := 0) (fc := 0) (fs := 0) h ok_X12_refuse cls12 im_X12_refuse se_X12_refuse ml_RX12_184 dX12_load_43 rfl h1 h2 (Nat.le_of_ble_eq_true rfl) rfl ?_
      rintro r K1 H7 ⟨rfl, x8, rfl, h⟩ -
      show Fr mX12_load (d + 1) 0 0 none 46 [(0, (2, v0)), (1, (0, v1)), (2, (0, v2)), (3, (0, v3))] [(0, x8)] _ H7 _
      exact r_iret dX12_load_46 rfl ⟨rfl, _, rfl, h⟩
    · replace h := h.2 c6
      refine r_iload_n 2 dX12_load_19 rfl rfl ?_
      refine r_aload_n 0 dX12_load_20 rfl rfl ?_
      refine r_getf cls12 31 dX12_load_21 (by decide) fl_RX12_67 rfl h1 h2 ?_
      refine r_iload_n 1 dX12_load_24 rfl rfl ?_
      obtain ⟨h9, h⟩ := h
      obtain ⟨n10, h⟩ := h
      obtain ⟨h11, h⟩ := h
      obtain ⟨h12, h⟩ := h
      obtain ⟨h13, h⟩ := h
      refine r_iald n10 dX12_load_25 h9 h11 h12 h13 ?_
      refine r_icmp_ge (tgt := 41) dX12_load_26 (by decide) (fun c14 => ?_) (fun c14 => ?_)
      · replace h := h.1 c14
        refine r_aload_n 0 dX12_load_41 rfl rfl ?_
        refine r_iconst dX12_load_42 (by decide) (by decide) ?_
        refine r_invV (M := mX12_load) (As := [(0, 2)]) (st := []) (X := v0) (mc := 0) (ms := 0) (fc := 0) (fs := 0) h ok_X12_refuse cls12 im_X12_refuse se_X12_refuse ml_RX12_184 dX12_load_43 rfl h1 h2 (Nat.le_of_ble_eq_true rfl) rfl ?_
        rintro r K1 H15 ⟨rfl, x16, rfl, h⟩ -
        show Fr mX12_load (d + 1) 0 0 none 46 [(0, (2, v0)), (1, (0, v1)), (2, (0, v2)), (3, (0, v3))] [(0, x16)] _ H15 _
        exact r_iret dX12_load_46 rfl ⟨rfl, _, rfl, h⟩
      · replace h := h.2 c14
        refine r_iload_n 3 dX12_load_29 rfl rfl ?_
        refine r_iconst dX12_load_30 (by decide) (by decide) ?_
        refine r_icmp_lt (tgt := 41) dX12_load_31 (by decide) (fun c17 => ?_) (fun c17 => ?_)
        · replace h := h.1 c17
          refine r_aload_n 0 dX12_load_41 rfl rfl ?_
          refine r_iconst dX12_load_42 (by decide) (by decide) ?_
          refine r_invV (M := mX12_load) (As := [(0, 2)]) (st := []) (X := v0) (mc := 0) (ms := 0) (fc := 0) (fs := 0) h ok_X12_refuse cls12 im_X12_refuse se_X12_refuse ml_RX12_184 dX12_load_43 rfl h1 h2 (Nat.le_of_ble_eq_true rfl) rfl ?_
          rintro r K1 H18 ⟨rfl, x19, rfl, h⟩ -
          show Fr mX12_load (d + 1) 0 0 none 46 [(0, (2, v0)), (1, (0, v1)), (2, (0, v2)), (3, (0, v3))] [(0, x19)] _ H18 _
          exact r_iret dX12_load_46 rfl ⟨rfl, _, rfl, h⟩
        · replace h := h.2 c17
          refine r_iload_n 3 dX12_load_34 rfl rfl ?_
          refine r_sipush dX12_load_35 (by decide) (by decide) ?_
          refine r_icmp_le (tgt := 47) dX12_load_38 (by decide) (fun c20 => ?_) (fun c20 => ?_)
          · replace h := h.1 c20
            refine r_aload_n 0 dX12_load_47 rfl rfl ?_
            refine r_getf cls12 33 dX12_load_48 (by decide) fl_RX12_73 rfl h1 h2 ?_
            refine r_iload_n 1 dX12_load_51 rfl rfl ?_
            obtain ⟨h21, h⟩ := h
            obtain ⟨n22, h⟩ := h
            obtain ⟨h23, h⟩ := h
            obtain ⟨h24, h⟩ := h
            refine r_iald n22 dX12_load_52 h21 h23 h12 h24 ?_
            refine r_iconst dX12_load_53 (by decide) (by decide) ?_
            refine r_icmp_ne (tgt := 63) dX12_load_54 (by decide) (fun c25 => ?_) (fun c25 => ?_)
            · replace h := h.1 c25
              refine r_iconst dX12_load_63 (by decide) (by decide) ?_
              refine r_istore dX12_load_64 (by decide) rfl ?_
              refine Fr.fewer [1, 2, 3, 4, 0] rfl ?_
              exact h
            · replace h := h.2 c25
              refine r_aload_n 0 dX12_load_57 rfl rfl ?_
              refine r_iconst dX12_load_58 (by decide) (by decide) ?_
              refine r_invV (M := mX12_load) (As := [(0, 3)]) (st := []) (X := v0) (mc := 0) (ms := 0) (fc := 0) (fs := 0) h ok_X12_refuse cls12 im_X12_refuse se_X12_refuse ml_RX12_184 dX12_load_59 rfl h1 h2 (Nat.le_of_ble_eq_true rfl) rfl ?_
              rintro r K1 H26 ⟨rfl, x27, rfl, h⟩ -
              show Fr mX12_load (d + 1) 0 0 none 62 [(0, (2, v0)), (1, (0, v1)), (2, (0, v2)), (3, (0, v3))] [(0, x27)] _ H26 _
              exact r_iret dX12_load_62 rfl ⟨rfl, _, rfl, h⟩
          · replace h := h.2 c20
            refine r_aload_n 0 dX12_load_41 rfl rfl ?_
            refine r_iconst dX12_load_42 (by decide) (by decide) ?_
            refine r_invV (M := mX12_load) (As := [(0, 2)]) (st := []) (X := v0) (mc := 0) (ms := 0) (fc := 0) (fs := 0) h ok_X12_refuse cls12 im_X12_refuse se_X12_refuse ml_RX12_184 dX12_load_43 rfl h1 h2 (Nat.le_of_ble_eq_true rfl) rfl ?_
            rintro r K1 H28 ⟨rfl, x29, rfl, h⟩ -
            show Fr mX12_load (d + 1) 0 0 none 46 [(0, (2, v0)), (1, (0, v1)), (2, (0, v2)), (3, (0, v3))] [(0, x29)] _ H28 _
            exact r_iret dX12_load_46 rfl ⟨rfl, _, rfl, h⟩
  · replace h := h.2 c5
    refine r_aload_n 0 dX12_load_8 rfl rfl ?_
    refine r_iconst dX12_load_9 (by decide) (by decide) ?_
    refine r_invV (M := mX12_load) (As := [(0, 1)]) (st := []) (X := v0) (mc := 0) (ms := 0) (fc := 0) (fs := 0) h ok_X12_refuse cls12 im_X12_refuse se_X12_refuse ml_RX12_184 dX12_load_10 rfl h1 h2 (Nat.le_of_ble_eq_true rfl) rfl ?_
    rintro r K1 H30 ⟨rfl, x31, rfl, h⟩ -
    show Fr mX12_load (d + 1) 0 0 none 13 [(0, (2, v0)), (1, (0, v1)), (2, (0, v2)), (3, (0, v3))] [(0, x31)] _ H30 _
    exact r_iret dX12_load_13 rfl ⟨rfl, _, rfl, h⟩
set_option maxHeartbeats 4000000 in
set_option maxRecDepth 20000 in
theorem bX12_load_66 {d : Nat} {K : Shp} {H : Mem} {q : Int → Mem → Prop} {v0 v1 v2 v3 v4 : Int} (h : ((0 : Int) ≤ v0) ∧ (K[(v0 : Int).toNat]? = some (12, 51)) ∧ ((0 : Int) ≤ (H (v0 : Int).toNat 33)) ∧ ∃ n4 : Nat, (K[((H (v0 : Int).toNat 33) : Int).toNat]? = some (20, n4)) ∧ ((0 : Int) ≤ v1) ∧ ((v1 : Int) < n4) ∧ ((¬ (v4 : Int) < (H ((H (v0 : Int).toNat 33) : Int).toNat (v1 : Int).toNat) → (inI (2 * v1)) ∧ (inI ((2 * v1) + (H ((H (v0 : Int).toNat 33) : Int).toNat (v1 : Int).toNat))) ∧ ((0 : Int) ≤ (H (v0 : Int).toNat 34)) ∧ ∃ n12 : Nat, (K[((H (v0 : Int).toNat 34) : Int).toNat]? = some (20, n12)) ∧ ((0 : Int) ≤ ((2 * v1) + (H ((H (v0 : Int).toNat 33) : Int).toNat (v1 : Int).toNat))) ∧ ((((2 * v1) + (H ((H (v0 : Int).toNat 33) : Int).toNat (v1 : Int).toNat)) : Int) < n12) ∧ ∀ H16 : Mem, H16 = upA H ((H (v0 : Int).toNat 34) : Int).toNat (up1 (H ((H (v0 : Int).toNat 34) : Int).toNat) (((2 * v1) + (H ((H (v0 : Int).toNat 33) : Int).toNat (v1 : Int).toNat)) : Int).toNat v2) → ((0 : Int) ≤ (H16 (v0 : Int).toNat 33)) ∧ ∃ n18 : Nat, (K[((H16 (v0 : Int).toNat 33) : Int).toNat]? = some (20, n18)) ∧ ((v1 : Int) < n18) ∧ (inI ((2 * v1) + (H16 ((H16 (v0 : Int).toNat 33) : Int).toNat (v1 : Int).toNat))) ∧ ((0 : Int) ≤ (H16 (v0 : Int).toNat 35)) ∧ ∃ n23 : Nat, (K[((H16 (v0 : Int).toNat 35) : Int).toNat]? = some (20, n23)) ∧ ((0 : Int) ≤ ((2 * v1) + (H16 ((H16 (v0 : Int).toNat 33) : Int).toNat (v1 : Int).toNat))) ∧ ((((2 * v1) + (H16 ((H16 (v0 : Int).toNat 33) : Int).toNat (v1 : Int).toNat)) : Int) < n23) ∧ ∀ H27 : Mem, H27 = upA H16 ((H16 (v0 : Int).toNat 35) : Int).toNat (up1 (H16 ((H16 (v0 : Int).toNat 35) : Int).toNat) (((2 * v1) + (H16 ((H16 (v0 : Int).toNat 33) : Int).toNat (v1 : Int).toNat)) : Int).toNat v3) → ((0 : Int) ≤ (H27 (v0 : Int).toNat 33)) ∧ ∃ n29 : Nat, (K[((H27 (v0 : Int).toNat 33) : Int).toNat]? = some (20, n29)) ∧ ((v1 : Int) < n29) ∧ (inI ((H27 ((H27 (v0 : Int).toNat 33) : Int).toNat (v1 : Int).toNat) + 1)) ∧ ∀ H33 : Mem, H33 = upA H27 ((H27 (v0 : Int).toNat 33) : Int).toNat (up1 (H27 ((H27 (v0 : Int).toNat 33) : Int).toNat) (v1 : Int).toNat ((H27 ((H27 (v0 : Int).toNat 33) : Int).toNat (v1 : Int).toNat) + 1)) → ∀ H34 : Mem, H34 = upA H33 (v0 : Int).toNat (up1 (H33 (v0 : Int).toNat) 0 0) → ((0 : Int) ≤ (H34 (v0 : Int).toNat 33)) ∧ ∃ n36 : Nat, (K[((H34 (v0 : Int).toNat 33) : Int).toNat]? = some (20, n36)) ∧ ((v1 : Int) < n36) ∧ (inI ((H34 ((H34 (v0 : Int).toNat 33) : Int).toNat (v1 : Int).toNat) - 1)) ∧ q ((H34 ((H34 (v0 : Int).toNat 33) : Int).toNat (v1 : Int).toNat) - 1) H34) ∧ ((v4 : Int) < (H ((H (v0 : Int).toNat 33) : Int).toNat (v1 : Int).toNat) → (inI (2 * v1)) ∧ (inI ((2 * v1) + v4)) ∧ ((0 : Int) ≤ (H (v0 : Int).toNat 34)) ∧ ∃ n43 : Nat, (K[((H (v0 : Int).toNat 34) : Int).toNat]? = some (20, n43)) ∧ ((0 : Int) ≤ ((2 * v1) + v4)) ∧ ((((2 * v1) + v4) : Int) < n43) ∧ ((¬ ((H ((H (v0 : Int).toNat 34) : Int).toNat (((2 * v1) + v4) : Int).toNat) : Int) = v2 → (inI (v4 + 1)) ∧ FX12_load_66 d K H q (v0) (v1) (v2) (v3) ((v4 + 1))) ∧ (((H ((H (v0 : Int).toNat 34) : Int).toNat (((2 * v1) + v4) : Int).toNat) : Int) = v2 → Ci mX12_refuse d [(2, v0), (0, 7)] K H (fun x50 H49 => q x50 H49)))))) : FX12_load_66 d K H q (v0) (v1) (v2) (v3) (v4) := by
  unfold FX12_load_66
  refine r_iload 4 dX12_load_66 rfl ?_
  refine r_aload_n 0 dX12_load_68 rfl rfl ?_
  obtain ⟨h1, h⟩ := h
  obtain ⟨h2, h⟩ := h
  refine r_getf cls12 33 dX12_load_69 (by decide) fl_RX12_73 rfl h1 h2 ?_
  refine r_iload_n 1 dX12_load_72 rfl rfl ?_
  obtain ⟨h3, h⟩ := h
  obtain ⟨n4, h⟩ := h
  obtain ⟨h5, h⟩ := h
  obtain ⟨h6, h⟩ := h
  obtain ⟨h7, h⟩ := h
  refine r_iald n4 dX12_load_73 h3 h5 h6 h7 ?_
  refine r_icmp_ge (tgt := 105) dX12_load_74 (by decide) (fun c8 => ?_) (fun c8 => ?_)
  · replace h := h.1 c8
    refine r_aload_n 0 dX12_load_105 rfl rfl ?_
    refine r_getf cls12 34 dX12_load_106 (by decide) fl_RX12_76 rfl h1 h2 ?_
    refine r_iconst dX12_load_109 (by decide) (by decide) ?_
    refine r_iload_n 1 dX12_load_110 rfl rfl ?_
    obtain ⟨h9, h⟩ := h
    refine r_imul dX12_load_111 h9 ?_
    refine r_aload_n 0 dX12_load_112 rfl rfl ?_
    refine r_getf cls12 33 dX12_load_113 (by decide) fl_RX12_73 rfl h1 h2 ?_
    refine r_iload_n 1 dX12_load_116 rfl rfl ?_
    refine r_iald n4 dX12_load_117 h3 h5 h6 h7 ?_
    obtain ⟨h10, h⟩ := h
    refine r_iadd dX12_load_118 h10 ?_
    refine r_iload_n 2 dX12_load_119 rfl rfl ?_
    obtain ⟨h11, h⟩ := h
    obtain ⟨n12, h⟩ := h
    obtain ⟨h13, h⟩ := h
    obtain ⟨h14, h⟩ := h
    obtain ⟨h15, h⟩ := h
    refine r_iast n12 dX12_load_120 h11 h13 h14 h15 ?_
    replace h := h _ rfl
    generalize upA H ((H (v0 : Int).toNat 34) : Int).toNat (up1 (H ((H (v0 : Int).toNat 34) : Int).toNat) (((2 * v1) + (H ((H (v0 : Int).toNat 33) : Int).toNat (v1 : Int).toNat)) : Int).toNat v2) = H16 at h ⊢
    refine r_aload_n 0 dX12_load_121 rfl rfl ?_
    refine r_getf cls12 35 dX12_load_122 (by decide) fl_RX12_79 rfl h1 h2 ?_
    refine r_iconst dX12_load_125 (by decide) (by decide) ?_
    refine r_iload_n 1 dX12_load_126 rfl rfl ?_
    refine r_imul dX12_load_127 h9 ?_
    refine r_aload_n 0 dX12_load_128 rfl rfl ?_
    refine r_getf cls12 33 dX12_load_129 (by decide) fl_RX12_73 rfl h1 h2 ?_
    refine r_iload_n 1 dX12_load_132 rfl rfl ?_
    obtain ⟨h17, h⟩ := h
    obtain ⟨n18, h⟩ := h
    obtain ⟨h19, h⟩ := h
    obtain ⟨h20, h⟩ := h
    refine r_iald n18 dX12_load_133 h17 h19 h6 h20 ?_
    obtain ⟨h21, h⟩ := h
    refine r_iadd dX12_load_134 h21 ?_
    refine r_iload_n 3 dX12_load_135 rfl rfl ?_
    obtain ⟨h22, h⟩ := h
    obtain ⟨n23, h⟩ := h
    obtain ⟨h24, h⟩ := h
    obtain ⟨h25, h⟩ := h
    obtain ⟨h26, h⟩ := h
    refine r_iast n23 dX12_load_136 h22 h24 h25 h26 ?_
    replace h := h _ rfl
    generalize upA H16 ((H16 (v0 : Int).toNat 35) : Int).toNat (up1 (H16 ((H16 (v0 : Int).toNat 35) : Int).toNat) (((2 * v1) + (H16 ((H16 (v0 : Int).toNat 33) : Int).toNat (v1 : Int).toNat)) : Int).toNat v3) = H27 at h ⊢
    refine r_aload_n 0 dX12_load_137 rfl rfl ?_
    refine r_getf cls12 33 dX12_load_138 (by decide) fl_RX12_73 rfl h1 h2 ?_
    refine r_iload_n 1 dX12_load_141 rfl rfl ?_
    refine r_dup2 dX12_load_142 (show (0 : Nat) ≠ 1 by decide) (show (2 : Nat) ≠ 1 by decide) ?_
    obtain ⟨h28, h⟩ := h
    obtain ⟨n29, h⟩ := h
    obtain ⟨h30, h⟩ := h
    obtain ⟨h31, h⟩ := h
    refine r_iald n29 dX12_load_143 h28 h30 h6 h31 ?_
    refine r_iconst dX12_load_144 (by decide) (by decide) ?_
    obtain ⟨h32, h⟩ := h
    refine r_iadd dX12_load_145 h32 ?_
    refine r_iast n29 dX12_load_146 h28 h30 h6 h31 ?_
    replace h := h _ rfl
    generalize upA H27 ((H27 (v0 : Int).toNat 33) : Int).toNat (up1 (H27 ((H27 (v0 : Int).toNat 33) : Int).toNat) (v1 : Int).toNat ((H27 ((H27 (v0 : Int).toNat 33) : Int).toNat (v1 : Int).toNat) + 1)) = H33 at h ⊢
    refine r_aload_n 0 dX12_load_147 rfl rfl ?_
    refine r_iconst dX12_load_148 (by decide) (by decide) ?_
    refine r_putf cls12 0 dX12_load_149 (by decide) rfl fl_RX12_89 rfl h1 h2 (fun o => o) ?_
    replace h := h _ rfl
    generalize upA H33 (v0 : Int).toNat (up1 (H33 (v0 : Int).toNat) 0 0) = H34 at h ⊢
    refine r_aload_n 0 dX12_load_152 rfl rfl ?_
    refine r_getf cls12 33 dX12_load_153 (by decide) fl_RX12_73 rfl h1 h2 ?_
    refine r_iload_n 1 dX12_load_156 rfl rfl ?_
    obtain ⟨h35, h⟩ := h
    obtain ⟨n36, h⟩ := h
    obtain ⟨h37, h⟩ := h
    obtain ⟨h38, h⟩ := h
    refine r_iald n36 dX12_load_157 h35 h37 h6 h38 ?_
    refine r_iconst dX12_load_158 (by decide) (by decide) ?_
    obtain ⟨h39, h⟩ := h
    refine r_isub dX12_load_159 h39 ?_
    exact r_iret dX12_load_160 rfl ⟨rfl, _, rfl, h⟩
  · replace h := h.2 c8
    refine r_aload_n 0 dX12_load_77 rfl rfl ?_
    refine r_getf cls12 34 dX12_load_78 (by decide) fl_RX12_76 rfl h1 h2 ?_
    refine r_iconst dX12_load_81 (by decide) (by decide) ?_
    refine r_iload_n 1 dX12_load_82 rfl rfl ?_
    obtain ⟨h40, h⟩ := h
    refine r_imul dX12_load_83 h40 ?_
    refine r_iload 4 dX12_load_84 rfl ?_
    obtain ⟨h41, h⟩ := h
    refine r_iadd dX12_load_86 h41 ?_
    obtain ⟨h42, h⟩ := h
    obtain ⟨n43, h⟩ := h
    obtain ⟨h44, h⟩ := h
    obtain ⟨h45, h⟩ := h
    obtain ⟨h46, h⟩ := h
    refine r_iald n43 dX12_load_87 h42 h44 h45 h46 ?_
    refine r_iload_n 2 dX12_load_88 rfl rfl ?_
    refine r_icmp_ne (tgt := 99) dX12_load_89 (by decide) (fun c47 => ?_) (fun c47 => ?_)
    · replace h := h.1 c47
      obtain ⟨h48, h⟩ := h
      refine r_iinc 4 dX12_load_99 (by decide) rfl h48 rfl ?_
      refine r_goto (tgt := 66) dX12_load_102 (by decide) ?_
      refine Fr.fewer [1, 2, 3, 4, 0] rfl ?_
      exact h
    · replace h := h.2 c47
      refine r_aload_n 0 dX12_load_92 rfl rfl ?_
      refine r_bipush dX12_load_93 (by decide) (by decide) ?_
      refine r_invV (M := mX12_load) (As := [(0, 7)]) (st := []) (X := v0) (mc := 0) (ms := 0) (fc := 0) (fs := 0) h ok_X12_refuse cls12 im_X12_refuse se_X12_refuse ml_RX12_184 dX12_load_95 rfl h1 h2 (Nat.le_of_ble_eq_true rfl) rfl ?_
      rintro r K1 H49 ⟨rfl, x50, rfl, h⟩ -
      show Fr mX12_load (d + 1) 0 0 none 98 [(0, (2, v0)), (1, (0, v1)), (2, (0, v2)), (3, (0, v3)), (4, (0, v4))] [(0, x50)] _ H49 _
      exact r_iret dX12_load_98 rfl ⟨rfl, _, rfl, h⟩
set_option maxHeartbeats 4000000 in
set_option maxRecDepth 20000 in
theorem eX12_load {d : Nat} {K : Shp} {H : Mem} {q : Int → Mem → Prop} {v0 v1 v2 v3 : Int} (h : inI v1 → inI v2 → inI v3 → Rng K H → FX12_load_0 d K H q v0 v1 v2 v3) : Ci mX12_load (d + 1) [(2, v0), (0, v1), (0, v2), (0, v3)] K H q := Call.of rfl (Nat.le_of_ble_eq_true rfl) (fun o r => h (o (0, v1) (by simp)) (o (0, v2) (by simp)) (o (0, v3) (by simp)) r)
def FX12_strengthOf_0 (d : Nat) (K : Shp) (H : Mem) (q : Mem → Prop) (v0 : Int) (v1 : Int) (v2 : Int) : Prop := Fr mX12_strengthOf (d + 1) 0 0 none 0 [(0, (2, v0)), (1, (0, v1)), (2, (0, v2))] [] K H (qv K q)
set_option maxHeartbeats 4000000 in
set_option maxRecDepth 20000 in
theorem bX12_strengthOf_0 {d : Nat} {K : Shp} {H : Mem} {q : Mem → Prop} {v0 v1 v2 : Int} (h : ((0 : Int) ≤ v0) ∧ (K[(v0 : Int).toNat]? = some (12, 51)) ∧ ((0 : Int) ≤ (H (v0 : Int).toNat 32)) ∧ ∃ n4 : Nat, (K[((H (v0 : Int).toNat 32) : Int).toNat]? = some (20, n4)) ∧ ((0 : Int) ≤ v1) ∧ ((v1 : Int) < n4) ∧ Cv mX12_asTold d [(2, v0), (0, (H ((H (v0 : Int).toNat 32) : Int).toNat (v1 : Int).toNat))] K H (fun H8 => Cv mX12_go d [(2, v0), (0, (H ((H (v0 : Int).toNat 32) : Int).toNat (v1 : Int).toNat)), (1, 0), (0, v2)] K H8 (fun H10 => (((v2 : Int) = 0 → (inL (-(H10 (v0 : Int).toNat 19))) ∧ ∀ H14 : Mem, H14 = upA H10 (v0 : Int).toNat (up1 (H10 (v0 : Int).toNat) 38 (-(H10 (v0 : Int).toNat 19))) → ∀ H15 : Mem, H15 = upA H14 (v0 : Int).toNat (up1 (H14 (v0 : Int).toNat) 39 (H14 (v0 : Int).toNat 20)) → q H15) ∧ (¬ (v2 : Int) = 0 → ∀ H16 : Mem, H16 = upA H10 (v0 : Int).toNat (up1 (H10 (v0 : Int).toNat) 38 (H10 (v0 : Int).toNat 19)) → ∀ H17 : Mem, H17 = upA H16 (v0 : Int).toNat (up1 (H16 (v0 : Int).toNat) 39 (H16 (v0 : Int).toNat 20)) → q H17))))) : FX12_strengthOf_0 d K H q (v0) (v1) (v2) := by
  unfold FX12_strengthOf_0
  refine r_aload_n 0 dX12_strengthOf_0 rfl rfl ?_
  obtain ⟨h1, h⟩ := h
  obtain ⟨h2, h⟩ := h
  refine r_getf cls12 32 dX12_strengthOf_1 (by decide) fl_RX12_70 rfl h1 h2 ?_
  refine r_iload_n 1 dX12_strengthOf_4 rfl rfl ?_
  obtain ⟨h3, h⟩ := h
  obtain ⟨n4, h⟩ := h
  obtain ⟨h5, h⟩ := h
  obtain ⟨h6, h⟩ := h
  obtain ⟨h7, h⟩ := h
  refine r_iald n4 dX12_strengthOf_5 h3 h5 h6 h7 ?_
  refine r_istore_n dX12_strengthOf_6 rfl (by decide) rfl ?_
  refine r_aload_n 1 dX12_strengthOf_7 rfl rfl ?_
  refine r_iload_n 0 dX12_strengthOf_8 rfl rfl ?_
  refine r_invV (M := mX12_strengthOf) (As := [(0, (H ((H (v0 : Int).toNat 32) : Int).toNat (v1 : Int).toNat))]) (st := []) (X := v0) (mc := 0) (ms := 0) (fc := 0) (fs := 0) h ok_X12_asTold cls12 im_X12_asTold se_X12_asTold ml_RX12_195 dX12_strengthOf_9 rfl h1 h2 (Nat.le_of_ble_eq_true rfl) rfl ?_
  rintro r K1 H8 ⟨rfl, rfl, h⟩ -
  show Fr mX12_strengthOf (d + 1) 0 0 none 12 [(3, (0, (H ((H (v0 : Int).toNat 32) : Int).toNat (v1 : Int).toNat))), (0, (2, v0)), (1, (0, v1)), (2, (0, v2))] [] _ H8 _
  refine r_aload_n 1 dX12_strengthOf_12 rfl rfl ?_
  refine r_iload_n 0 dX12_strengthOf_13 rfl rfl ?_
  refine r_lconst0 dX12_strengthOf_14 ?_
  refine r_iload_n 3 dX12_strengthOf_15 rfl rfl ?_
  refine r_invV (M := mX12_strengthOf) (As := [(0, (H ((H (v0 : Int).toNat 32) : Int).toNat (v1 : Int).toNat)), (1, 0), (0, v2)]) (st := []) (X := v0) (mc := 0) (ms := 0) (fc := 0) (fs := 0) h ok_X12_go cls12 im_X12_go se_X12_go ml_RX12_235 dX12_strengthOf_16 rfl h1 h2 (Nat.le_of_ble_eq_true rfl) rfl ?_
  rintro r K1 H10 ⟨rfl, rfl, h⟩ -
  show Fr mX12_strengthOf (d + 1) 0 0 none 19 [(3, (0, (H ((H (v0 : Int).toNat 32) : Int).toNat (v1 : Int).toNat))), (0, (2, v0)), (1, (0, v1)), (2, (0, v2))] [] _ H10 _
  refine r_aload_n 1 dX12_strengthOf_19 rfl rfl ?_
  refine r_iload_n 3 dX12_strengthOf_20 rfl rfl ?_
  refine r_if_eq (tgt := 31) dX12_strengthOf_21 (by decide) (fun c12 => ?_) (fun c12 => ?_)
  · replace h := h.1 c12
    refine r_aload_n 1 dX12_strengthOf_31 rfl rfl ?_
    refine r_getf cls12 19 dX12_strengthOf_32 (by decide) fl_RX12_211 rfl h1 h2 ?_
    obtain ⟨h13, h⟩ := h
    refine r_lneg dX12_strengthOf_35 h13 ?_
    refine r_putf cls12 38 dX12_strengthOf_36 (by decide) rfl fl_RX12_267 rfl h1 h2 (fun o => o) ?_
    replace h := h _ rfl
    generalize upA H10 (v0 : Int).toNat (up1 (H10 (v0 : Int).toNat) 38 (-(H10 (v0 : Int).toNat 19))) = H14 at h ⊢
    refine r_aload_n 1 dX12_strengthOf_39 rfl rfl ?_
    refine r_aload_n 1 dX12_strengthOf_40 rfl rfl ?_
    refine r_getf cls12 20 dX12_strengthOf_41 (by decide) fl_RX12_215 rfl h1 h2 ?_
    refine r_putf cls12 39 dX12_strengthOf_44 (by decide) rfl fl_RX12_270 rfl h1 h2 (fun o => o) ?_
    replace h := h _ rfl
    generalize upA H14 (v0 : Int).toNat (up1 (H14 (v0 : Int).toNat) 39 (H14 (v0 : Int).toNat 20)) = H15 at h ⊢
    exact r_vret dX12_strengthOf_47 rfl ⟨rfl, rfl, h⟩
  · replace h := h.2 c12
    refine r_aload_n 1 dX12_strengthOf_24 rfl rfl ?_
    refine r_getf cls12 19 dX12_strengthOf_25 (by decide) fl_RX12_211 rfl h1 h2 ?_
    refine r_goto (tgt := 36) dX12_strengthOf_28 (by decide) ?_
    refine r_putf cls12 38 dX12_strengthOf_36 (by decide) rfl fl_RX12_267 rfl h1 h2 (fun o => o) ?_
    replace h := h _ rfl
    generalize upA H10 (v0 : Int).toNat (up1 (H10 (v0 : Int).toNat) 38 (H10 (v0 : Int).toNat 19)) = H16 at h ⊢
    refine r_aload_n 1 dX12_strengthOf_39 rfl rfl ?_
    refine r_aload_n 1 dX12_strengthOf_40 rfl rfl ?_
    refine r_getf cls12 20 dX12_strengthOf_41 (by decide) fl_RX12_215 rfl h1 h2 ?_
    refine r_putf cls12 39 dX12_strengthOf_44 (by decide) rfl fl_RX12_270 rfl h1 h2 (fun o => o) ?_
    replace h := h _ rfl
    generalize upA H16 (v0 : Int).toNat (up1 (H16 (v0 : Int).toNat) 39 (H16 (v0 : Int).toNat 20)) = H17 at h ⊢
    exact r_vret dX12_strengthOf_47 rfl ⟨rfl, rfl, h⟩
set_option maxHeartbeats 4000000 in
set_option maxRecDepth 20000 in
theorem eX12_strengthOf {d : Nat} {K : Shp} {H : Mem} {q : Mem → Prop} {v0 v1 v2 : Int} (h : inI v1 → inI v2 → Rng K H → FX12_strengthOf_0 d K H q v0 v1 v2) : Cv mX12_strengthOf (d + 1) [(2, v0), (0, v1), (0, v2)] K H q := Call.of rfl (Nat.le_of_ble_eq_true rfl) (fun o r => h (o (0, v1) (by simp)) (o (0, v2) (by simp)) r)
def FX12_hogOf_0 (d : Nat) (K : Shp) (H : Mem) (q : Mem → Prop) (v0 : Int) (v1 : Int) : Prop := Fr mX12_hogOf (d + 1) 0 0 none 0 [(0, (2, v0)), (1, (0, v1))] [] K H (qv K q)
def FX12_hogOf_19 (d : Nat) (K : Shp) (H : Mem) (q : Mem → Prop) (v0 : Int) (v1 : Int) (s0 : Int) : Prop := Fr mX12_hogOf (d + 1) 0 0 none 19 [(0, (2, v0)), (1, (0, v1))] [(0, s0)] K H (qv K q)
def FX12_hogOf_33 (d : Nat) (K : Shp) (H : Mem) (q : Mem → Prop) (v0 : Int) (v1 : Int) (v2 : Int) (s0 : Int) : Prop := Fr mX12_hogOf (d + 1) 0 0 none 33 [(0, (2, v0)), (1, (0, v1)), (2, (0, v2))] [(0, s0)] K H (qv K q)
def FX12_hogOf_61 (d : Nat) (K : Shp) (H : Mem) (q : Mem → Prop) (v0 : Int) (v1 : Int) (v2 : Int) (v3 : Int) : Prop := Fr mX12_hogOf (d + 1) 0 0 none 61 [(0, (2, v0)), (1, (0, v1)), (2, (0, v2)), (3, (0, v3))] [] K H (qv K q)
def FX12_hogOf_73 (d : Nat) (K : Shp) (H : Mem) (q : Mem → Prop) (v0 : Int) (v1 : Int) (v2 : Int) (v3 : Int) : Prop := Fr mX12_hogOf (d + 1) 0 0 none 73 [(0, (2, v0)), (1, (0, v1)), (2, (0, v2)), (3, (0, v3))] [] K H (qv K q)
def FX12_hogOf_95 (d : Nat) (K : Shp) (H : Mem) (q : Mem → Prop) (v0 : Int) (v2 : Int) (v3 : Int) (v4 : Int) (v6 : Int) : Prop := Fr mX12_hogOf (d + 1) 0 0 none 95 [(0, (2, v0)), (2, (0, v2)), (3, (0, v3)), (4, (1, v4)), (6, (1, v6))] [] K H (qv K q)
set_option maxHeartbeats 4000000 in
set_option maxRecDepth 20000 in
theorem bX12_hogOf_0 {d : Nat} {K : Shp} {H : Mem} {q : Mem → Prop} {v0 v1 : Int} (h : ((0 : Int) ≤ v0) ∧ (K[(v0 : Int).toNat]? = some (12, 51)) ∧ ∀ H3 : Mem, H3 = upA H (v0 : Int).toNat (up1 (H (v0 : Int).toNat) 38 0) → ∀ H4 : Mem, H4 = upA H3 (v0 : Int).toNat (up1 (H3 (v0 : Int).toNat) 39 1) → (((v1 : Int) ≤ 0 → FX12_hogOf_19 d K H4 q (v0) (v1) (0)) ∧ (¬ (v1 : Int) ≤ 0 → FX12_hogOf_19 d K H4 q (v0) (v1) (1)))) : FX12_hogOf_0 d K H q (v0) (v1) := by
  unfold FX12_hogOf_0
  refine r_aload_n 0 dX12_hogOf_0 rfl rfl ?_
  refine r_lconst0 dX12_hogOf_1 ?_
  obtain ⟨h1, h⟩ := h
  obtain ⟨h2, h⟩ := h
  refine r_putf cls12 38 dX12_hogOf_2 (by decide) rfl fl_RX12_267 rfl h1 h2 (fun o => o) ?_
  replace h := h _ rfl
  generalize upA H (v0 : Int).toNat (up1 (H (v0 : Int).toNat) 38 0) = H3 at h ⊢
  refine r_aload_n 0 dX12_hogOf_5 rfl rfl ?_
  refine r_lconst1 dX12_hogOf_6 ?_
  refine r_putf cls12 39 dX12_hogOf_7 (by decide) rfl fl_RX12_270 rfl h1 h2 (fun o => o) ?_
  replace h := h _ rfl
  generalize upA H3 (v0 : Int).toNat (up1 (H3 (v0 : Int).toNat) 39 1) = H4 at h ⊢
  refine r_iload_n 1 dX12_hogOf_10 rfl rfl ?_
  refine r_if_le (tgt := 18) dX12_hogOf_11 (by decide) (fun c5 => ?_) (fun c5 => ?_)
  · replace h := h.1 c5
    refine r_iconst dX12_hogOf_18 (by decide) (by decide) ?_
    refine Fr.fewer [0, 1] rfl ?_
    exact h
  · replace h := h.2 c5
    refine r_iconst dX12_hogOf_14 (by decide) (by decide) ?_
    refine r_goto (tgt := 19) dX12_hogOf_15 (by decide) ?_
    refine Fr.fewer [0, 1] rfl ?_
    exact h
set_option maxHeartbeats 4000000 in
set_option maxRecDepth 20000 in
theorem bX12_hogOf_19 {d : Nat} {K : Shp} {H : Mem} {q : Mem → Prop} {v0 v1 s0 : Int} (h : ((0 : Int) ≤ v0) ∧ (K[(v0 : Int).toNat]? = some (12, 51)) ∧ ((¬ (v1 : Int) < (H (v0 : Int).toNat 37) → FX12_hogOf_33 d K H q (v0) (v1) (s0) (0)) ∧ ((v1 : Int) < (H (v0 : Int).toNat 37) → FX12_hogOf_33 d K H q (v0) (v1) (s0) (1)))) : FX12_hogOf_19 d K H q (v0) (v1) (s0) := by
  unfold FX12_hogOf_19
  refine r_istore_n dX12_hogOf_19 rfl (by decide) rfl ?_
  refine r_iload_n 2 dX12_hogOf_20 rfl rfl ?_
  refine r_aload_n 1 dX12_hogOf_21 rfl rfl ?_
  obtain ⟨h1, h⟩ := h
  obtain ⟨h2, h⟩ := h
  refine r_getf cls12 37 dX12_hogOf_22 (by decide) fl_RX12_261 rfl h1 h2 ?_
  refine r_icmp_ge (tgt := 32) dX12_hogOf_25 (by decide) (fun c3 => ?_) (fun c3 => ?_)
  · replace h := h.1 c3
    refine r_iconst dX12_hogOf_32 (by decide) (by decide) ?_
    refine Fr.fewer [1, 2, 0] rfl ?_
    exact h
  · replace h := h.2 c3
    refine r_iconst dX12_hogOf_28 (by decide) (by decide) ?_
    refine r_goto (tgt := 33) dX12_hogOf_29 (by decide) ?_
    refine Fr.fewer [1, 2, 0] rfl ?_
    exact h
set_option maxHeartbeats 4000000 in
set_option maxRecDepth 20000 in
theorem bX12_hogOf_33 {d : Nat} {K : Shp} {H : Mem} {q : Mem → Prop} {v0 v1 v2 s0 : Int} (h : ((¬ (v2 : Int) = 0 → ((¬ (s0 : Int) = 0 → FX12_hogOf_61 d K H q (v0) (v1) (v2) (s0)) ∧ ((s0 : Int) = 0 → ((0 : Int) ≤ v0) ∧ (K[(v0 : Int).toNat]? = some (12, 51)) ∧ ((0 : Int) ≤ (H (v0 : Int).toNat 36)) ∧ ∃ n6 : Nat, (K[((H (v0 : Int).toNat 36) : Int).toNat]? = some (22, n6)) ∧ ((1 : Int) < n6) ∧ ((¬ ((H ((H (v0 : Int).toNat 36) : Int).toNat (1 : Int).toNat) : Int) = 0 → FX12_hogOf_61 d K H q (v0) (v1) (v2) (s0)) ∧ (((H ((H (v0 : Int).toNat 36) : Int).toNat (1 : Int).toNat) : Int) = 0 → q H))))) ∧ ((v2 : Int) = 0 → ((0 : Int) ≤ v0) ∧ (K[(v0 : Int).toNat]? = some (12, 51)) ∧ ((0 : Int) ≤ (H (v0 : Int).toNat 36)) ∧ ∃ n13 : Nat, (K[((H (v0 : Int).toNat 36) : Int).toNat]? = some (22, n13)) ∧ ((0 : Int) < n13) ∧ ((((H ((H (v0 : Int).toNat 36) : Int).toNat (0 : Int).toNat) : Int) = 0 → q H) ∧ (¬ ((H ((H (v0 : Int).toNat 36) : Int).toNat (0 : Int).toNat) : Int) = 0 → ((¬ (s0 : Int) = 0 → FX12_hogOf_61 d K H q (v0) (v1) (v2) (s0)) ∧ ((s0 : Int) = 0 → ((1 : Int) < n13) ∧ ((¬ ((H ((H (v0 : Int).toNat 36) : Int).toNat (1 : Int).toNat) : Int) = 0 → FX12_hogOf_61 d K H q (v0) (v1) (v2) (s0)) ∧ (((H ((H (v0 : Int).toNat 36) : Int).toNat (1 : Int).toNat) : Int) = 0 → q H))))))))) : FX12_hogOf_33 d K H q (v0) (v1) (v2) (s0) := by
  unfold FX12_hogOf_33
  refine r_istore_n dX12_hogOf_33 rfl (by decide) rfl ?_
  refine r_iload_n 3 dX12_hogOf_34 rfl rfl ?_
  refine r_if_ne (tgt := 47) dX12_hogOf_35 (by decide) (fun c1 => ?_) (fun c1 => ?_)
  · replace h := h.1 c1
    refine r_iload_n 0 dX12_hogOf_47 rfl rfl ?_
    refine r_if_ne (tgt := 61) dX12_hogOf_48 (by decide) (fun c2 => ?_) (fun c2 => ?_)
    · replace h := h.1 c2
      refine Fr.fewer [1, 2, 3, 0] rfl ?_
      exact h
    · replace h := h.2 c2
      refine r_aload_n 1 dX12_hogOf_51 rfl rfl ?_
      obtain ⟨h3, h⟩ := h
      obtain ⟨h4, h⟩ := h
      refine r_getf cls12 36 dX12_hogOf_52 (by decide) fl_RX12_82 rfl h3 h4 ?_
      refine r_iconst dX12_hogOf_55 (by decide) (by decide) ?_
      obtain ⟨h5, h⟩ := h
      obtain ⟨n6, h⟩ := h
      obtain ⟨h7, h⟩ := h
      obtain ⟨h8, h⟩ := h
      refine r_zald n6 dX12_hogOf_56 h5 h7 (by decide) h8 ?_
      refine r_if_ne (tgt := 61) dX12_hogOf_57 (by decide) (fun c9 => ?_) (fun c9 => ?_)
      · replace h := h.1 c9
        refine Fr.fewer [1, 2, 3, 0] rfl ?_
        exact h
      · replace h := h.2 c9
        exact r_vret dX12_hogOf_60 rfl ⟨rfl, rfl, h⟩
  · replace h := h.2 c1
    refine r_aload_n 1 dX12_hogOf_38 rfl rfl ?_
    obtain ⟨h10, h⟩ := h
    obtain ⟨h11, h⟩ := h
    refine r_getf cls12 36 dX12_hogOf_39 (by decide) fl_RX12_82 rfl h10 h11 ?_
    refine r_iconst dX12_hogOf_42 (by decide) (by decide) ?_
    obtain ⟨h12, h⟩ := h
    obtain ⟨n13, h⟩ := h
    obtain ⟨h14, h⟩ := h
    obtain ⟨h15, h⟩ := h
    refine r_zald n13 dX12_hogOf_43 h12 h14 (by decide) h15 ?_
    refine r_if_eq (tgt := 60) dX12_hogOf_44 (by decide) (fun c16 => ?_) (fun c16 => ?_)
    · replace h := h.1 c16
      exact r_vret dX12_hogOf_60 rfl ⟨rfl, rfl, h⟩
    · replace h := h.2 c16
      refine r_iload_n 0 dX12_hogOf_47 rfl rfl ?_
      refine r_if_ne (tgt := 61) dX12_hogOf_48 (by decide) (fun c17 => ?_) (fun c17 => ?_)
      · replace h := h.1 c17
        refine Fr.fewer [1, 2, 3, 0] rfl ?_
        exact h
      · replace h := h.2 c17
        refine r_aload_n 1 dX12_hogOf_51 rfl rfl ?_
        refine r_getf cls12 36 dX12_hogOf_52 (by decide) fl_RX12_82 rfl h10 h11 ?_
        refine r_iconst dX12_hogOf_55 (by decide) (by decide) ?_
        obtain ⟨h18, h⟩ := h
        refine r_zald n13 dX12_hogOf_56 h12 h14 (by decide) h18 ?_
        refine r_if_ne (tgt := 61) dX12_hogOf_57 (by decide) (fun c19 => ?_) (fun c19 => ?_)
        · replace h := h.1 c19
          refine Fr.fewer [1, 2, 3, 0] rfl ?_
          exact h
        · replace h := h.2 c19
          exact r_vret dX12_hogOf_60 rfl ⟨rfl, rfl, h⟩
set_option maxHeartbeats 4000000 in
set_option maxRecDepth 20000 in
theorem bX12_hogOf_61 {d : Nat} {K : Shp} {H : Mem} {q : Mem → Prop} {v0 v1 v2 v3 : Int} (h : (((v2 : Int) = 0 → FX12_hogOf_73 d K H q (v0) (v1) (v2) (v3)) ∧ (¬ (v2 : Int) = 0 → (inI (v1 - 1)) ∧ ((0 : Int) ≤ v0) ∧ (K[(v0 : Int).toNat]? = some (12, 51)) ∧ Cv mX12_strengthOf d [(2, v0), (0, (v1 - 1)), (0, 0)] K H (fun H5 => FX12_hogOf_73 d K H5 q (v0) (v1) (v2) (v3))))) : FX12_hogOf_61 d K H q (v0) (v1) (v2) (v3) := by
  unfold FX12_hogOf_61
  refine r_iload_n 2 dX12_hogOf_61 rfl rfl ?_
  refine r_if_eq (tgt := 73) dX12_hogOf_62 (by decide) (fun c1 => ?_) (fun c1 => ?_)
  · replace h := h.1 c1
    refine Fr.fewer [0, 1, 2, 3] rfl ?_
    exact h
  · replace h := h.2 c1
    refine r_aload_n 0 dX12_hogOf_65 rfl rfl ?_
    refine r_iload_n 1 dX12_hogOf_66 rfl rfl ?_
    refine r_iconst dX12_hogOf_67 (by decide) (by decide) ?_
    obtain ⟨h2, h⟩ := h
    refine r_isub dX12_hogOf_68 h2 ?_
    refine r_iconst dX12_hogOf_69 (by decide) (by decide) ?_
    obtain ⟨h3, h⟩ := h
    obtain ⟨h4, h⟩ := h
    refine r_invV (M := mX12_hogOf) (As := [(0, (v1 - 1)), (0, 0)]) (st := []) (X := v0) (mc := 0) (ms := 0) (fc := 0) (fs := 0) h ok_X12_strengthOf cls12 im_X12_strengthOf se_X12_strengthOf ml_RX12_273 dX12_hogOf_70 rfl h3 h4 (Nat.le_of_ble_eq_true rfl) rfl ?_
    rintro r K1 H5 ⟨rfl, rfl, h⟩ -
    show Fr mX12_hogOf (d + 1) 0 0 none 73 [(0, (2, v0)), (1, (0, v1)), (2, (0, v2)), (3, (0, v3))] [] _ H5 _
    refine Fr.fewer [0, 1, 2, 3] rfl ?_
    exact h
set_option maxHeartbeats 4000000 in
set_option maxRecDepth 20000 in
theorem bX12_hogOf_73 {d : Nat} {K : Shp} {H : Mem} {q : Mem → Prop} {v0 v1 v2 v3 : Int} (h : ((0 : Int) ≤ v0) ∧ (K[(v0 : Int).toNat]? = some (12, 51)) ∧ (((v3 : Int) = 0 → FX12_hogOf_95 d K H q (v0) (v2) (v3) ((H (v0 : Int).toNat 38)) ((H (v0 : Int).toNat 39))) ∧ (¬ (v3 : Int) = 0 → Cv mX12_strengthOf d [(2, v0), (0, v1), (0, 0)] K H (fun H4 => FX12_hogOf_95 d K H4 q (v0) (v2) (v3) ((H (v0 : Int).toNat 38)) ((H (v0 : Int).toNat 39)))))) : FX12_hogOf_73 d K H q (v0) (v1) (v2) (v3) := by
  unfold FX12_hogOf_73
  refine r_aload_n 0 dX12_hogOf_73 rfl rfl ?_
  obtain ⟨h1, h⟩ := h
  obtain ⟨h2, h⟩ := h
  refine r_getf cls12 38 dX12_hogOf_74 (by decide) fl_RX12_267 rfl h1 h2 ?_
  refine r_lstore dX12_hogOf_77 (by decide) rfl ?_
  refine r_aload_n 1 dX12_hogOf_79 rfl rfl ?_
  refine r_getf cls12 39 dX12_hogOf_80 (by decide) fl_RX12_270 rfl h1 h2 ?_
  refine r_lstore dX12_hogOf_83 (by decide) rfl ?_
  refine r_iload_n 5 dX12_hogOf_85 rfl rfl ?_
  refine r_if_eq (tgt := 95) dX12_hogOf_86 (by decide) (fun c3 => ?_) (fun c3 => ?_)
  · replace h := h.1 c3
    refine Fr.fewer [2, 4, 5, 1, 0] rfl ?_
    exact h
  · replace h := h.2 c3
    refine r_aload_n 2 dX12_hogOf_89 rfl rfl ?_
    refine r_iload_n 3 dX12_hogOf_90 rfl rfl ?_
    refine r_iconst dX12_hogOf_91 (by decide) (by decide) ?_
    refine r_invV (M := mX12_hogOf) (As := [(0, v1), (0, 0)]) (st := []) (X := v0) (mc := 0) (ms := 0) (fc := 0) (fs := 0) h ok_X12_strengthOf cls12 im_X12_strengthOf se_X12_strengthOf ml_RX12_273 dX12_hogOf_92 rfl h1 h2 (Nat.le_of_ble_eq_true rfl) rfl ?_
    rintro r K1 H4 ⟨rfl, rfl, h⟩ -
    show Fr mX12_hogOf (d + 1) 0 0 none 95 [(6, (1, (H (v0 : Int).toNat 39))), (4, (1, (H (v0 : Int).toNat 38))), (0, (2, v0)), (1, (0, v1)), (2, (0, v2)), (3, (0, v3))] [] _ H4 _
    refine Fr.fewer [2, 4, 5, 1, 0] rfl ?_
    exact h
set_option maxHeartbeats 4000000 in
set_option maxRecDepth 20000 in
theorem bX12_hogOf_95 {d : Nat} {K : Shp} {H : Mem} {q : Mem → Prop} {v0 v2 v3 v4 v6 : Int} (h : (((v2 : Int) = 0 → q H) ∧ (¬ (v2 : Int) = 0 → (((v3 : Int) = 0 → q H) ∧ (¬ (v3 : Int) = 0 → ((0 : Int) ≤ v0) ∧ (K[(v0 : Int).toNat]? = some (12, 51)) ∧ Ci mX12_less3 d [(2, v0), (1, v4), (1, v6), (1, (H (v0 : Int).toNat 38)), (1, (H (v0 : Int).toNat 39))] K H (fun x6 H5 => (((x6 : Int) = 0 → q H5) ∧ (¬ (x6 : Int) = 0 → ∀ H8 : Mem, H8 = upA H5 (v0 : Int).toNat (up1 (H5 (v0 : Int).toNat) 38 v4) → ∀ H9 : Mem, H9 = upA H8 (v0 : Int).toNat (up1 (H8 (v0 : Int).toNat) 39 v6) → q H9)))))))) : FX12_hogOf_95 d K H q (v0) (v2) (v3) (v4) (v6) := by
  unfold FX12_hogOf_95
  refine r_iload_n 1 dX12_hogOf_95 rfl rfl ?_
  refine r_if_eq (tgt := 134) dX12_hogOf_96 (by decide) (fun c1 => ?_) (fun c1 => ?_)
  · replace h := h.1 c1
    exact r_vret dX12_hogOf_134 rfl ⟨rfl, rfl, h⟩
  · replace h := h.2 c1
    refine r_iload_n 2 dX12_hogOf_99 rfl rfl ?_
    refine r_if_eq (tgt := 134) dX12_hogOf_100 (by decide) (fun c2 => ?_) (fun c2 => ?_)
    · replace h := h.1 c2
      exact r_vret dX12_hogOf_134 rfl ⟨rfl, rfl, h⟩
    · replace h := h.2 c2
      refine r_aload_n 0 dX12_hogOf_103 rfl rfl ?_
      refine r_lload 3 dX12_hogOf_104 rfl ?_
      refine r_lload 4 dX12_hogOf_106 rfl ?_
      refine r_aload_n 0 dX12_hogOf_108 rfl rfl ?_
      obtain ⟨h3, h⟩ := h
      obtain ⟨h4, h⟩ := h
      refine r_getf cls12 38 dX12_hogOf_109 (by decide) fl_RX12_267 rfl h3 h4 ?_
      refine r_aload_n 0 dX12_hogOf_112 rfl rfl ?_
      refine r_getf cls12 39 dX12_hogOf_113 (by decide) fl_RX12_270 rfl h3 h4 ?_
      refine r_invV (M := mX12_hogOf) (As := [(1, v4), (1, v6), (1, (H (v0 : Int).toNat 38)), (1, (H (v0 : Int).toNat 39))]) (st := []) (X := v0) (mc := 0) (ms := 0) (fc := 0) (fs := 0) h ok_X12_less3 cls12 im_X12_less3 se_X12_less3 ml_RX12_277 dX12_hogOf_116 rfl h3 h4 (Nat.le_of_ble_eq_true rfl) rfl ?_
      rintro r K1 H5 ⟨rfl, x6, rfl, h⟩ -
      show Fr mX12_hogOf (d + 1) 0 0 none 119 [(0, (2, v0)), (2, (0, v2)), (3, (0, v3)), (4, (1, v4)), (6, (1, v6))] [(0, x6)] _ H5 _
      refine r_if_eq (tgt := 134) dX12_hogOf_119 (by decide) (fun c7 => ?_) (fun c7 => ?_)
      · replace h := h.1 c7
        exact r_vret dX12_hogOf_134 rfl ⟨rfl, rfl, h⟩
      · replace h := h.2 c7
        refine r_aload_n 0 dX12_hogOf_122 rfl rfl ?_
        refine r_lload 3 dX12_hogOf_123 rfl ?_
        refine r_putf cls12 38 dX12_hogOf_125 (by decide) rfl fl_RX12_267 rfl h3 h4 (fun o => o) ?_
        replace h := h _ rfl
        generalize upA H5 (v0 : Int).toNat (up1 (H5 (v0 : Int).toNat) 38 v4) = H8 at h ⊢
        refine r_aload_n 0 dX12_hogOf_128 rfl rfl ?_
        refine r_lload 4 dX12_hogOf_129 rfl ?_
        refine r_putf cls12 39 dX12_hogOf_131 (by decide) rfl fl_RX12_270 rfl h3 h4 (fun o => o) ?_
        replace h := h _ rfl
        generalize upA H8 (v0 : Int).toNat (up1 (H8 (v0 : Int).toNat) 39 v6) = H9 at h ⊢
        exact r_vret dX12_hogOf_134 rfl ⟨rfl, rfl, h⟩
set_option maxHeartbeats 4000000 in
set_option maxRecDepth 20000 in
theorem eX12_hogOf {d : Nat} {K : Shp} {H : Mem} {q : Mem → Prop} {v0 v1 : Int} (h : inI v1 → Rng K H → FX12_hogOf_0 d K H q v0 v1) : Cv mX12_hogOf (d + 1) [(2, v0), (0, v1)] K H q := Call.of rfl (Nat.le_of_ble_eq_true rfl) (fun o r => h (o (0, v1) (by simp)) r)
def FX12_less3_0 (d : Nat) (K : Shp) (H : Mem) (q : Int → Mem → Prop) (v0 : Int) (v1 : Int) (v3 : Int) (v5 : Int) (v7 : Int) : Prop := Fr mX12_less3 (d + 1) 0 0 none 0 [(0, (2, v0)), (1, (1, v1)), (3, (1, v3)), (5, (1, v5)), (7, (1, v7))] [] K H (qi K q)
set_option maxHeartbeats 4000000 in
set_option maxRecDepth 20000 in
theorem bX12_less3_0 {d : Nat} {K : Shp} {H : Mem} {q : Int → Mem → Prop} {v0 v1 v3 v5 v7 : Int} (h : ((0 : Int) ≤ v0) ∧ (K[(v0 : Int).toNat]? = some (12, 51)) ∧ ∀ H3 : Mem, H3 = upA H (v0 : Int).toNat (up1 (H (v0 : Int).toNat) 2 0) → Ci mX12_whole d [(2, v0), (1, v1)] K H3 (fun x5 H4 => Ci mX12_whole d [(2, v0), (1, v7)] K H4 (fun x7 H6 => Ci mX12_product d [(2, v0), (0, x5), (0, x7)] K H6 (fun x9 H8 => Ci mX12_whole d [(2, v0), (1, v5)] K H8 (fun x11 H10 => Ci mX12_whole d [(2, v0), (1, v3)] K H10 (fun x13 H12 => Ci mX12_product d [(2, v0), (0, x11), (0, x13)] K H12 (fun x15 H14 => Ci mX12_less d [(2, v0), (0, x9), (0, x15)] K H14 (fun x17 H16 => Ci mX12_sign d [(2, v0), (0, x17)] K H16 (fun x19 H18 => ((¬ (x19 : Int) < 0 → q 0 H18) ∧ ((x19 : Int) < 0 → q 1 H18))))))))))) : FX12_less3_0 d K H q (v0) (v1) (v3) (v5) (v7) := by
  unfold FX12_less3_0
  refine r_aload_n 0 dX12_less3_0 rfl rfl ?_
  refine r_iconst dX12_less3_1 (by decide) (by decide) ?_
  obtain ⟨h1, h⟩ := h
  obtain ⟨h2, h⟩ := h
  refine r_putf cls12 2 dX12_less3_2 (by decide) rfl fl_RX12_93 rfl h1 h2 (fun o => o) ?_
  replace h := h _ rfl
  generalize upA H (v0 : Int).toNat (up1 (H (v0 : Int).toNat) 2 0) = H3 at h ⊢
  refine r_aload_n 0 dX12_less3_5 rfl rfl ?_
  refine r_aload_n 0 dX12_less3_6 rfl rfl ?_
  refine r_aload_n 0 dX12_less3_7 rfl rfl ?_
  refine r_aload_n 0 dX12_less3_8 rfl rfl ?_
  refine r_lload_n 1 dX12_less3_9 rfl rfl ?_
  refine r_invV (M := mX12_less3) (As := [(1, v1)]) (st := [(2, v0), (2, v0), (2, v0)]) (X := v0) (mc := 0) (ms := 0) (fc := 0) (fs := 0) h ok_X12_whole cls12 im_X12_whole se_X12_whole ml_RX12_125 dX12_less3_10 rfl h1 h2 (Nat.le_of_ble_eq_true rfl) rfl ?_
  rintro r K1 H4 ⟨rfl, x5, rfl, h⟩ -
  show Fr mX12_less3 (d + 1) 0 0 none 13 [(0, (2, v0)), (1, (1, v1)), (3, (1, v3)), (5, (1, v5)), (7, (1, v7))] [(0, x5), (2, v0), (2, v0), (2, v0)] _ H4 _
  refine r_aload_n 0 dX12_less3_13 rfl rfl ?_
  refine r_lload 4 dX12_less3_14 rfl ?_
  refine r_invV (M := mX12_less3) (As := [(1, v7)]) (st := [(0, x5), (2, v0), (2, v0), (2, v0)]) (X := v0) (mc := 0) (ms := 0) (fc := 0) (fs := 0) h ok_X12_whole cls12 im_X12_whole se_X12_whole ml_RX12_125 dX12_less3_16 rfl h1 h2 (Nat.le_of_ble_eq_true rfl) rfl ?_
  rintro r K1 H6 ⟨rfl, x7, rfl, h⟩ -
  show Fr mX12_less3 (d + 1) 0 0 none 19 [(0, (2, v0)), (1, (1, v1)), (3, (1, v3)), (5, (1, v5)), (7, (1, v7))] [(0, x7), (0, x5), (2, v0), (2, v0), (2, v0)] _ H6 _
  refine r_invV (M := mX12_less3) (As := [(0, x5), (0, x7)]) (st := [(2, v0), (2, v0)]) (X := v0) (mc := 0) (ms := 0) (fc := 0) (fs := 0) h ok_X12_product cls12 im_X12_product se_X12_product ml_RX12_281 dX12_less3_19 rfl h1 h2 (Nat.le_of_ble_eq_true rfl) rfl ?_
  rintro r K1 H8 ⟨rfl, x9, rfl, h⟩ -
  show Fr mX12_less3 (d + 1) 0 0 none 22 [(0, (2, v0)), (1, (1, v1)), (3, (1, v3)), (5, (1, v5)), (7, (1, v7))] [(0, x9), (2, v0), (2, v0)] _ H8 _
  refine r_aload_n 0 dX12_less3_22 rfl rfl ?_
  refine r_aload_n 0 dX12_less3_23 rfl rfl ?_
  refine r_lload 3 dX12_less3_24 rfl ?_
  refine r_invV (M := mX12_less3) (As := [(1, v5)]) (st := [(2, v0), (0, x9), (2, v0), (2, v0)]) (X := v0) (mc := 0) (ms := 0) (fc := 0) (fs := 0) h ok_X12_whole cls12 im_X12_whole se_X12_whole ml_RX12_125 dX12_less3_26 rfl h1 h2 (Nat.le_of_ble_eq_true rfl) rfl ?_
  rintro r K1 H10 ⟨rfl, x11, rfl, h⟩ -
  show Fr mX12_less3 (d + 1) 0 0 none 29 [(0, (2, v0)), (1, (1, v1)), (3, (1, v3)), (5, (1, v5)), (7, (1, v7))] [(0, x11), (2, v0), (0, x9), (2, v0), (2, v0)] _ H10 _
  refine r_aload_n 0 dX12_less3_29 rfl rfl ?_
  refine r_lload_n 2 dX12_less3_30 rfl rfl ?_
  refine r_invV (M := mX12_less3) (As := [(1, v3)]) (st := [(0, x11), (2, v0), (0, x9), (2, v0), (2, v0)]) (X := v0) (mc := 0) (ms := 0) (fc := 0) (fs := 0) h ok_X12_whole cls12 im_X12_whole se_X12_whole ml_RX12_125 dX12_less3_31 rfl h1 h2 (Nat.le_of_ble_eq_true rfl) rfl ?_
  rintro r K1 H12 ⟨rfl, x13, rfl, h⟩ -
  show Fr mX12_less3 (d + 1) 0 0 none 34 [(0, (2, v0)), (1, (1, v1)), (3, (1, v3)), (5, (1, v5)), (7, (1, v7))] [(0, x13), (0, x11), (2, v0), (0, x9), (2, v0), (2, v0)] _ H12 _
  refine r_invV (M := mX12_less3) (As := [(0, x11), (0, x13)]) (st := [(0, x9), (2, v0), (2, v0)]) (X := v0) (mc := 0) (ms := 0) (fc := 0) (fs := 0) h ok_X12_product cls12 im_X12_product se_X12_product ml_RX12_281 dX12_less3_34 rfl h1 h2 (Nat.le_of_ble_eq_true rfl) rfl ?_
  rintro r K1 H14 ⟨rfl, x15, rfl, h⟩ -
  show Fr mX12_less3 (d + 1) 0 0 none 37 [(0, (2, v0)), (1, (1, v1)), (3, (1, v3)), (5, (1, v5)), (7, (1, v7))] [(0, x15), (0, x9), (2, v0), (2, v0)] _ H14 _
  refine r_invV (M := mX12_less3) (As := [(0, x9), (0, x15)]) (st := [(2, v0)]) (X := v0) (mc := 0) (ms := 0) (fc := 0) (fs := 0) h ok_X12_less cls12 im_X12_less se_X12_less ml_RX12_284 dX12_less3_37 rfl h1 h2 (Nat.le_of_ble_eq_true rfl) rfl ?_
  rintro r K1 H16 ⟨rfl, x17, rfl, h⟩ -
  show Fr mX12_less3 (d + 1) 0 0 none 40 [(0, (2, v0)), (1, (1, v1)), (3, (1, v3)), (5, (1, v5)), (7, (1, v7))] [(0, x17), (2, v0)] _ H16 _
  refine r_invV (M := mX12_less3) (As := [(0, x17)]) (st := []) (X := v0) (mc := 0) (ms := 0) (fc := 0) (fs := 0) h ok_X12_sign cls12 im_X12_sign se_X12_sign ml_RX12_112 dX12_less3_40 rfl h1 h2 (Nat.le_of_ble_eq_true rfl) rfl ?_
  rintro r K1 H18 ⟨rfl, x19, rfl, h⟩ -
  show Fr mX12_less3 (d + 1) 0 0 none 43 [(0, (2, v0)), (1, (1, v1)), (3, (1, v3)), (5, (1, v5)), (7, (1, v7))] [(0, x19)] _ H18 _
  refine r_if_ge (tgt := 50) dX12_less3_43 (by decide) (fun c20 => ?_) (fun c20 => ?_)
  · replace h := h.1 c20
    refine r_iconst dX12_less3_50 (by decide) (by decide) ?_
    exact r_zret dX12_less3_51 rfl (Or.inl rfl) ⟨rfl, _, rfl, h⟩
  · replace h := h.2 c20
    refine r_iconst dX12_less3_46 (by decide) (by decide) ?_
    refine r_goto (tgt := 51) dX12_less3_47 (by decide) ?_
    exact r_zret dX12_less3_51 rfl (Or.inr rfl) ⟨rfl, _, rfl, h⟩
set_option maxHeartbeats 4000000 in
set_option maxRecDepth 20000 in
theorem eX12_less3 {d : Nat} {K : Shp} {H : Mem} {q : Int → Mem → Prop} {v0 v1 v3 v5 v7 : Int} (h : inL v1 → inL v3 → inL v5 → inL v7 → Rng K H → FX12_less3_0 d K H q v0 v1 v3 v5 v7) : Ci mX12_less3 (d + 1) [(2, v0), (1, v1), (1, v3), (1, v5), (1, v7)] K H q := Call.of rfl (Nat.le_of_ble_eq_true rfl) (fun o r => h (o (1, v1) (by simp)) (o (1, v3) (by simp)) (o (1, v5) (by simp)) (o (1, v7) (by simp)) r)
def FX12_gather_0 (d : Nat) (K : Shp) (H : Mem) (q : Mem → Prop) (v0 : Int) (v1 : Int) (v2 : Int) : Prop := Fr mX12_gather (d + 1) 0 0 none 0 [(0, (2, v0)), (1, (0, v1)), (2, (0, v2))] [] K H (qv K q)
def FX12_gather_93 (d : Nat) (K : Shp) (H : Mem) (q : Mem → Prop) (v0 : Int) (v1 : Int) (v3 : Int) (v4 : Int) (v5 : Int) : Prop := Fr mX12_gather (d + 1) 0 0 none 93 [(0, (2, v0)), (1, (0, v1)), (3, (0, v3)), (4, (0, v4)), (5, (0, v5))] [] K H (qv K q)
set_option maxHeartbeats 4000000 in
set_option maxRecDepth 20000 in
theorem bX12_gather_0 {d : Nat} {K : Shp} {H : Mem} {q : Mem → Prop} {v0 v1 v2 : Int} (h : ((0 : Int) ≤ v0) ∧ (K[(v0 : Int).toNat]? = some (12, 51)) ∧ Cv mX12_strengthOf d [(2, v0), (0, v1), (0, 1)] K H (fun H3 => ∀ H5 : Mem, H5 = upA H3 (v0 : Int).toNat (up1 (H3 (v0 : Int).toNat) 40 (H3 (v0 : Int).toNat 38)) → ∀ H6 : Mem, H6 = upA H5 (v0 : Int).toNat (up1 (H5 (v0 : Int).toNat) 43 (H5 (v0 : Int).toNat 39)) → Cv mX12_hogOf d [(2, v0), (0, v1)] K H6 (fun H7 => ∀ H9 : Mem, H9 = upA H7 (v0 : Int).toNat (up1 (H7 (v0 : Int).toNat) 41 (H7 (v0 : Int).toNat 38)) → ∀ H10 : Mem, H10 = upA H9 (v0 : Int).toNat (up1 (H9 (v0 : Int).toNat) 44 (H9 (v0 : Int).toNat 39)) → (inI (v1 + 1)) ∧ Cv mX12_hogOf d [(2, v0), (0, (v1 + 1))] K H10 (fun H12 => ∀ H14 : Mem, H14 = upA H12 (v0 : Int).toNat (up1 (H12 (v0 : Int).toNat) 42 (H12 (v0 : Int).toNat 38)) → ∀ H15 : Mem, H15 = upA H14 (v0 : Int).toNat (up1 (H14 (v0 : Int).toNat) 45 (H14 (v0 : Int).toNat 39)) → (inI (2 * v1)) ∧ (inI ((2 * v1) + v2)) ∧ ((0 : Int) ≤ (H15 (v0 : Int).toNat 34)) ∧ ∃ n19 : Nat, (K[((H15 (v0 : Int).toNat 34) : Int).toNat]? = some (20, n19)) ∧ ((0 : Int) ≤ ((2 * v1) + v2)) ∧ ((((2 * v1) + v2) : Int) < n19) ∧ ((0 : Int) ≤ (H15 (v0 : Int).toNat 31)) ∧ ∃ n24 : Nat, (K[((H15 (v0 : Int).toNat 31) : Int).toNat]? = some (20, n24)) ∧ ((0 : Int) ≤ v1) ∧ ((v1 : Int) < n24) ∧ ∀ H28 : Mem, H28 = upA H15 (v0 : Int).toNat (up1 (H15 (v0 : Int).toNat) 46 0) → FX12_gather_93 d K H28 q (v0) (v1) ((H15 ((H15 (v0 : Int).toNat 34) : Int).toNat (((2 * v1) + v2) : Int).toNat)) ((H15 ((H15 (v0 : Int).toNat 31) : Int).toNat (v1 : Int).toNat)) (0))))) : FX12_gather_0 d K H q (v0) (v1) (v2) := by
  unfold FX12_gather_0
  refine r_aload_n 0 dX12_gather_0 rfl rfl ?_
  refine r_iload_n 1 dX12_gather_1 rfl rfl ?_
  refine r_iconst dX12_gather_2 (by decide) (by decide) ?_
  obtain ⟨h1, h⟩ := h
  obtain ⟨h2, h⟩ := h
  refine r_invV (M := mX12_gather) (As := [(0, v1), (0, 1)]) (st := []) (X := v0) (mc := 0) (ms := 0) (fc := 0) (fs := 0) h ok_X12_strengthOf cls12 im_X12_strengthOf se_X12_strengthOf ml_RX12_273 dX12_gather_3 rfl h1 h2 (Nat.le_of_ble_eq_true rfl) rfl ?_
  rintro r K1 H3 ⟨rfl, rfl, h⟩ -
  show Fr mX12_gather (d + 1) 0 0 none 6 [(0, (2, v0)), (1, (0, v1)), (2, (0, v2))] [] _ H3 _
  refine r_aload_n 0 dX12_gather_6 rfl rfl ?_
  refine r_aload_n 0 dX12_gather_7 rfl rfl ?_
  refine r_getf cls12 38 dX12_gather_8 (by decide) fl_RX12_267 rfl h1 h2 ?_
  refine r_putf cls12 40 dX12_gather_11 (by decide) rfl fl_RX12_287 rfl h1 h2 (fun o => o) ?_
  replace h := h _ rfl
  generalize upA H3 (v0 : Int).toNat (up1 (H3 (v0 : Int).toNat) 40 (H3 (v0 : Int).toNat 38)) = H5 at h ⊢
  refine r_aload_n 0 dX12_gather_14 rfl rfl ?_
  refine r_aload_n 0 dX12_gather_15 rfl rfl ?_
  refine r_getf cls12 39 dX12_gather_16 (by decide) fl_RX12_270 rfl h1 h2 ?_
  refine r_putf cls12 43 dX12_gather_19 (by decide) rfl fl_RX12_290 rfl h1 h2 (fun o => o) ?_
  replace h := h _ rfl
  generalize upA H5 (v0 : Int).toNat (up1 (H5 (v0 : Int).toNat) 43 (H5 (v0 : Int).toNat 39)) = H6 at h ⊢
  refine r_aload_n 0 dX12_gather_22 rfl rfl ?_
  refine r_iload_n 1 dX12_gather_23 rfl rfl ?_
  refine r_invV (M := mX12_gather) (As := [(0, v1)]) (st := []) (X := v0) (mc := 0) (ms := 0) (fc := 0) (fs := 0) h ok_X12_hogOf cls12 im_X12_hogOf se_X12_hogOf ml_RX12_293 dX12_gather_24 rfl h1 h2 (Nat.le_of_ble_eq_true rfl) rfl ?_
  rintro r K1 H7 ⟨rfl, rfl, h⟩ -
  show Fr mX12_gather (d + 1) 0 0 none 27 [(0, (2, v0)), (1, (0, v1)), (2, (0, v2))] [] _ H7 _
  refine r_aload_n 0 dX12_gather_27 rfl rfl ?_
  refine r_aload_n 0 dX12_gather_28 rfl rfl ?_
  refine r_getf cls12 38 dX12_gather_29 (by decide) fl_RX12_267 rfl h1 h2 ?_
  refine r_putf cls12 41 dX12_gather_32 (by decide) rfl fl_RX12_296 rfl h1 h2 (fun o => o) ?_
  replace h := h _ rfl
  generalize upA H7 (v0 : Int).toNat (up1 (H7 (v0 : Int).toNat) 41 (H7 (v0 : Int).toNat 38)) = H9 at h ⊢
  refine r_aload_n 0 dX12_gather_35 rfl rfl ?_
  refine r_aload_n 0 dX12_gather_36 rfl rfl ?_
  refine r_getf cls12 39 dX12_gather_37 (by decide) fl_RX12_270 rfl h1 h2 ?_
  refine r_putf cls12 44 dX12_gather_40 (by decide) rfl fl_RX12_299 rfl h1 h2 (fun o => o) ?_
  replace h := h _ rfl
  generalize upA H9 (v0 : Int).toNat (up1 (H9 (v0 : Int).toNat) 44 (H9 (v0 : Int).toNat 39)) = H10 at h ⊢
  refine r_aload_n 0 dX12_gather_43 rfl rfl ?_
  refine r_iload_n 1 dX12_gather_44 rfl rfl ?_
  refine r_iconst dX12_gather_45 (by decide) (by decide) ?_
  obtain ⟨h11, h⟩ := h
  refine r_iadd dX12_gather_46 h11 ?_
  refine r_invV (M := mX12_gather) (As := [(0, (v1 + 1))]) (st := []) (X := v0) (mc := 0) (ms := 0) (fc := 0) (fs := 0) h ok_X12_hogOf cls12 im_X12_hogOf se_X12_hogOf ml_RX12_293 dX12_gather_47 rfl h1 h2 (Nat.le_of_ble_eq_true rfl) rfl ?_
  rintro r K1 H12 ⟨rfl, rfl, h⟩ -
  show Fr mX12_gather (d + 1) 0 0 none 50 [(0, (2, v0)), (1, (0, v1)), (2, (0, v2))] [] _ H12 _
  refine r_aload_n 0 dX12_gather_50 rfl rfl ?_
  refine r_aload_n 0 dX12_gather_51 rfl rfl ?_
  refine r_getf cls12 38 dX12_gather_52 (by decide) fl_RX12_267 rfl h1 h2 ?_
  refine r_putf cls12 42 dX12_gather_55 (by decide) rfl fl_RX12_302 rfl h1 h2 (fun o => o) ?_
  replace h := h _ rfl
  generalize upA H12 (v0 : Int).toNat (up1 (H12 (v0 : Int).toNat) 42 (H12 (v0 : Int).toNat 38)) = H14 at h ⊢
  refine r_aload_n 0 dX12_gather_58 rfl rfl ?_
  refine r_aload_n 0 dX12_gather_59 rfl rfl ?_
  refine r_getf cls12 39 dX12_gather_60 (by decide) fl_RX12_270 rfl h1 h2 ?_
  refine r_putf cls12 45 dX12_gather_63 (by decide) rfl fl_RX12_305 rfl h1 h2 (fun o => o) ?_
  replace h := h _ rfl
  generalize upA H14 (v0 : Int).toNat (up1 (H14 (v0 : Int).toNat) 45 (H14 (v0 : Int).toNat 39)) = H15 at h ⊢
  refine r_aload_n 0 dX12_gather_66 rfl rfl ?_
  refine r_getf cls12 34 dX12_gather_67 (by decide) fl_RX12_76 rfl h1 h2 ?_
  refine r_iconst dX12_gather_70 (by decide) (by decide) ?_
  refine r_iload_n 1 dX12_gather_71 rfl rfl ?_
  obtain ⟨h16, h⟩ := h
  refine r_imul dX12_gather_72 h16 ?_
  refine r_iload_n 2 dX12_gather_73 rfl rfl ?_
  obtain ⟨h17, h⟩ := h
  refine r_iadd dX12_gather_74 h17 ?_
  obtain ⟨h18, h⟩ := h
  obtain ⟨n19, h⟩ := h
  obtain ⟨h20, h⟩ := h
  obtain ⟨h21, h⟩ := h
  obtain ⟨h22, h⟩ := h
  refine r_iald n19 dX12_gather_75 h18 h20 h21 h22 ?_
  refine r_istore_n dX12_gather_76 rfl (by decide) rfl ?_
  refine r_aload_n 1 dX12_gather_77 rfl rfl ?_
  refine r_getf cls12 31 dX12_gather_78 (by decide) fl_RX12_67 rfl h1 h2 ?_
  refine r_iload_n 2 dX12_gather_81 rfl rfl ?_
  obtain ⟨h23, h⟩ := h
  obtain ⟨n24, h⟩ := h
  obtain ⟨h25, h⟩ := h
  obtain ⟨h26, h⟩ := h
  obtain ⟨h27, h⟩ := h
  refine r_iald n24 dX12_gather_82 h23 h25 h26 h27 ?_
  refine r_istore dX12_gather_83 (by decide) rfl ?_
  refine r_aload_n 2 dX12_gather_85 rfl rfl ?_
  refine r_lconst0 dX12_gather_86 ?_
  refine r_putf cls12 46 dX12_gather_87 (by decide) rfl fl_RX12_308 rfl h1 h2 (fun o => o) ?_
  replace h := h _ rfl
  generalize upA H15 (v0 : Int).toNat (up1 (H15 (v0 : Int).toNat) 46 0) = H28 at h ⊢
  refine r_iconst dX12_gather_90 (by decide) (by decide) ?_
  refine r_istore dX12_gather_91 (by decide) rfl ?_
  refine Fr.fewer [3, 4, 2, 1, 0] rfl ?_
  exact h
set_option maxHeartbeats 4000000 in
set_option maxRecDepth 20000 in
theorem bX12_gather_93 {d : Nat} {K : Shp} {H : Mem} {q : Mem → Prop} {v0 v1 v3 v4 v5 : Int} (h : ((0 : Int) ≤ v0) ∧ (K[(v0 : Int).toNat]? = some (12, 51)) ∧ ((0 : Int) ≤ (H (v0 : Int).toNat 33)) ∧ ∃ n4 : Nat, (K[((H (v0 : Int).toNat 33) : Int).toNat]? = some (20, n4)) ∧ ((0 : Int) ≤ v1) ∧ ((v1 : Int) < n4) ∧ ((¬ (v5 : Int) < (H ((H (v0 : Int).toNat 33) : Int).toNat (v1 : Int).toNat) → q H) ∧ ((v5 : Int) < (H ((H (v0 : Int).toNat 33) : Int).toNat (v1 : Int).toNat) → (inI (2 * v1)) ∧ (inI ((2 * v1) + v5)) ∧ ((0 : Int) ≤ (H (v0 : Int).toNat 34)) ∧ ∃ n12 : Nat, (K[((H (v0 : Int).toNat 34) : Int).toNat]? = some (20, n12)) ∧ ((0 : Int) ≤ ((2 * v1) + v5)) ∧ ((((2 * v1) + v5) : Int) < n12) ∧ ((0 : Int) ≤ (H (v0 : Int).toNat 35)) ∧ ∃ n17 : Nat, (K[((H (v0 : Int).toNat 35) : Int).toNat]? = some (20, n17)) ∧ ((((2 * v1) + v5) : Int) < n17) ∧ ((¬ (v3 : Int) ≤ (H ((H (v0 : Int).toNat 34) : Int).toNat (((2 * v1) + v5) : Int).toNat) → (inI (v4 - v3)) ∧ (inI ((H ((H (v0 : Int).toNat 34) : Int).toNat (((2 * v1) + v5) : Int).toNat) * (v4 - v3))) ∧ (inL ((H ((H (v0 : Int).toNat 35) : Int).toNat (((2 * v1) + v5) : Int).toNat) * ((H ((H (v0 : Int).toNat 34) : Int).toNat (((2 * v1) + v5) : Int).toNat) * (v4 - v3)))) ∧ (inL ((H (v0 : Int).toNat 46) + ((H ((H (v0 : Int).toNat 35) : Int).toNat (((2 * v1) + v5) : Int).toNat) * ((H ((H (v0 : Int).toNat 34) : Int).toNat (((2 * v1) + v5) : Int).toNat) * (v4 - v3))))) ∧ ∀ H25 : Mem, H25 = upA H (v0 : Int).toNat (up1 (H (v0 : Int).toNat) 46 ((H (v0 : Int).toNat 46) + ((H ((H (v0 : Int).toNat 35) : Int).toNat (((2 * v1) + v5) : Int).toNat) * ((H ((H (v0 : Int).toNat 34) : Int).toNat (((2 * v1) + v5) : Int).toNat) * (v4 - v3))))) → (inI (v5 + 1)) ∧ FX12_gather_93 d K H25 q (v0) (v1) (v3) (v4) ((v5 + 1))) ∧ ((v3 : Int) ≤ (H ((H (v0 : Int).toNat 34) : Int).toNat (((2 * v1) + v5) : Int).toNat) → (inI (v4 - (H ((H (v0 : Int).toNat 34) : Int).toNat (((2 * v1) + v5) : Int).toNat))) ∧ (inI ((v4 - (H ((H (v0 : Int).toNat 34) : Int).toNat (((2 * v1) + v5) : Int).toNat)) * v3)) ∧ (inL ((H ((H (v0 : Int).toNat 35) : Int).toNat (((2 * v1) + v5) : Int).toNat) * ((v4 - (H ((H (v0 : Int).toNat 34) : Int).toNat (((2 * v1) + v5) : Int).toNat)) * v3))) ∧ (inL ((H (v0 : Int).toNat 46) + ((H ((H (v0 : Int).toNat 35) : Int).toNat (((2 * v1) + v5) : Int).toNat) * ((v4 - (H ((H (v0 : Int).toNat 34) : Int).toNat (((2 * v1) + v5) : Int).toNat)) * v3)))) ∧ ∀ H31 : Mem, H31 = upA H (v0 : Int).toNat (up1 (H (v0 : Int).toNat) 46 ((H (v0 : Int).toNat 46) + ((H ((H (v0 : Int).toNat 35) : Int).toNat (((2 * v1) + v5) : Int).toNat) * ((v4 - (H ((H (v0 : Int).toNat 34) : Int).toNat (((2 * v1) + v5) : Int).toNat)) * v3)))) → (inI (v5 + 1)) ∧ FX12_gather_93 d K H31 q (v0) (v1) (v3) (v4) ((v5 + 1))))))) : FX12_gather_93 d K H q (v0) (v1) (v3) (v4) (v5) := by
  unfold FX12_gather_93
  refine r_iload 4 dX12_gather_93 rfl ?_
  refine r_aload_n 0 dX12_gather_95 rfl rfl ?_
  obtain ⟨h1, h⟩ := h
  obtain ⟨h2, h⟩ := h
  refine r_getf cls12 33 dX12_gather_96 (by decide) fl_RX12_73 rfl h1 h2 ?_
  refine r_iload_n 1 dX12_gather_99 rfl rfl ?_
  obtain ⟨h3, h⟩ := h
  obtain ⟨n4, h⟩ := h
  obtain ⟨h5, h⟩ := h
  obtain ⟨h6, h⟩ := h
  obtain ⟨h7, h⟩ := h
  refine r_iald n4 dX12_gather_100 h3 h5 h6 h7 ?_
  refine r_icmp_ge (tgt := 169) dX12_gather_101 (by decide) (fun c8 => ?_) (fun c8 => ?_)
  · replace h := h.1 c8
    exact r_vret dX12_gather_169 rfl ⟨rfl, rfl, h⟩
  · replace h := h.2 c8
    refine r_aload_n 0 dX12_gather_104 rfl rfl ?_
    refine r_getf cls12 34 dX12_gather_105 (by decide) fl_RX12_76 rfl h1 h2 ?_
    refine r_iconst dX12_gather_108 (by decide) (by decide) ?_
    refine r_iload_n 1 dX12_gather_109 rfl rfl ?_
    obtain ⟨h9, h⟩ := h
    refine r_imul dX12_gather_110 h9 ?_
    refine r_iload 4 dX12_gather_111 rfl ?_
    obtain ⟨h10, h⟩ := h
    refine r_iadd dX12_gather_113 h10 ?_
    obtain ⟨h11, h⟩ := h
    obtain ⟨n12, h⟩ := h
    obtain ⟨h13, h⟩ := h
    obtain ⟨h14, h⟩ := h
    obtain ⟨h15, h⟩ := h
    refine r_iald n12 dX12_gather_114 h11 h13 h14 h15 ?_
    refine r_istore dX12_gather_115 (by decide) rfl ?_
    refine r_aload_n 1 dX12_gather_117 rfl rfl ?_
    refine r_dup dX12_gather_118 (show (2 : Nat) ≠ 1 by decide) ?_
    refine r_getf cls12 46 dX12_gather_119 (by decide) fl_RX12_308 rfl h1 h2 ?_
    refine r_aload_n 1 dX12_gather_122 rfl rfl ?_
    refine r_getf cls12 35 dX12_gather_123 (by decide) fl_RX12_79 rfl h1 h2 ?_
    refine r_iconst dX12_gather_126 (by decide) (by decide) ?_
    refine r_iload_n 2 dX12_gather_127 rfl rfl ?_
    refine r_imul dX12_gather_128 h9 ?_
    refine r_iload 5 dX12_gather_129 rfl ?_
    refine r_iadd dX12_gather_131 h10 ?_
    obtain ⟨h16, h⟩ := h
    obtain ⟨n17, h⟩ := h
    obtain ⟨h18, h⟩ := h
    obtain ⟨h19, h⟩ := h
    refine r_iald n17 dX12_gather_132 h16 h18 h14 h19 ?_
    refine r_i2l dX12_gather_133 ?_
    refine r_iload_n 3 dX12_gather_134 rfl rfl ?_
    refine r_iload 0 dX12_gather_135 rfl ?_
    refine r_icmp_gt (tgt := 150) dX12_gather_137 (by decide) (fun c20 => ?_) (fun c20 => ?_)
    · replace h := h.1 c20
      refine r_iload 0 dX12_gather_150 rfl ?_
      refine r_iload 4 dX12_gather_152 rfl ?_
      refine r_iload_n 3 dX12_gather_154 rfl rfl ?_
      obtain ⟨h21, h⟩ := h
      refine r_isub dX12_gather_155 h21 ?_
      obtain ⟨h22, h⟩ := h
      refine r_imul dX12_gather_156 h22 ?_
      refine r_i2l dX12_gather_157 ?_
      obtain ⟨h23, h⟩ := h
      refine r_lmul dX12_gather_158 h23 ?_
      obtain ⟨h24, h⟩ := h
      refine r_ladd dX12_gather_159 h24 ?_
      refine r_putf cls12 46 dX12_gather_160 (by decide) rfl fl_RX12_308 rfl h1 h2 (fun o => o) ?_
      replace h := h _ rfl
      generalize upA H (v0 : Int).toNat (up1 (H (v0 : Int).toNat) 46 ((H (v0 : Int).toNat 46) + ((H ((H (v0 : Int).toNat 35) : Int).toNat (((2 * v1) + v5) : Int).toNat) * ((H ((H (v0 : Int).toNat 34) : Int).toNat (((2 * v1) + v5) : Int).toNat) * (v4 - v3))))) = H25 at h ⊢
      obtain ⟨h26, h⟩ := h
      refine r_iinc 5 dX12_gather_163 (by decide) rfl h26 rfl ?_
      refine r_goto (tgt := 93) dX12_gather_166 (by decide) ?_
      refine Fr.fewer [2, 3, 4, 5, 0] rfl ?_
      exact h
    · replace h := h.2 c20
      refine r_iload 4 dX12_gather_140 rfl ?_
      refine r_iload 0 dX12_gather_142 rfl ?_
      obtain ⟨h27, h⟩ := h
      refine r_isub dX12_gather_144 h27 ?_
      refine r_iload_n 3 dX12_gather_145 rfl rfl ?_
      obtain ⟨h28, h⟩ := h
      refine r_imul dX12_gather_146 h28 ?_
      refine r_goto (tgt := 157) dX12_gather_147 (by decide) ?_
      refine r_i2l dX12_gather_157 ?_
      obtain ⟨h29, h⟩ := h
      refine r_lmul dX12_gather_158 h29 ?_
      obtain ⟨h30, h⟩ := h
      refine r_ladd dX12_gather_159 h30 ?_
      refine r_putf cls12 46 dX12_gather_160 (by decide) rfl fl_RX12_308 rfl h1 h2 (fun o => o) ?_
      replace h := h _ rfl
      generalize upA H (v0 : Int).toNat (up1 (H (v0 : Int).toNat) 46 ((H (v0 : Int).toNat 46) + ((H ((H (v0 : Int).toNat 35) : Int).toNat (((2 * v1) + v5) : Int).toNat) * ((v4 - (H ((H (v0 : Int).toNat 34) : Int).toNat (((2 * v1) + v5) : Int).toNat)) * v3)))) = H31 at h ⊢
      obtain ⟨h32, h⟩ := h
      refine r_iinc 5 dX12_gather_163 (by decide) rfl h32 rfl ?_
      refine r_goto (tgt := 93) dX12_gather_166 (by decide) ?_
      refine Fr.fewer [2, 3, 4, 5, 0] rfl ?_
      exact h
set_option maxHeartbeats 4000000 in
set_option maxRecDepth 20000 in
theorem eX12_gather {d : Nat} {K : Shp} {H : Mem} {q : Mem → Prop} {v0 v1 v2 : Int} (h : inI v1 → inI v2 → Rng K H → FX12_gather_0 d K H q v0 v1 v2) : Cv mX12_gather (d + 1) [(2, v0), (0, v1), (0, v2)] K H q := Call.of rfl (Nat.le_of_ble_eq_true rfl) (fun o r => h (o (0, v1) (by simp)) (o (0, v2) (by simp)) r)
