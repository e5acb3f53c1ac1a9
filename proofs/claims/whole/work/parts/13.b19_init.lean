/-! printed by gen/emit.py: what a walk from each cut point asks -/
def FX10_init_0 (d fc fs : Nat) (K : Shp) (H : Mem) (Q : Option AV → Shp → Mem → Prop) (v0 : Int) : Prop := Fr mX10_init (d + 1) fc fs none 0 [(0, (2, v0))] [] K H Q
set_option maxHeartbeats 4000000 in
set_option maxRecDepth 20000 in
theorem bX10_init_0 {d fc fs : Nat} {K : Shp} {H : Mem} {Q : Option AV → Shp → Mem → Prop} {v0 : Int} (h : ((0 : Int) ≤ v0) ∧ (1 ≤ fc) ∧ (6 ≤ fs) ∧ ∀ H4 : Mem, H4 = upA H (K).length (dflt 21) → ∀ K5 : Shp, K5 = (K ++ [(21, 6)]) → (K5[(v0 : Int).toNat]? = some (10, 1)) ∧ ∀ H8 : Mem, H8 = upA H4 (v0 : Int).toNat (up1 (H4 (v0 : Int).toNat) 0 (((K).length : Nat) : Int)) → Q none K5 H8) : FX10_init_0 d fc fs K H Q (v0) := by
  unfold FX10_init_0
  refine r_aload_n 0 dX10_init_0 rfl rfl ?_
  obtain ⟨h1, h⟩ := h
  refine r_objInit dX10_init_1 ml_RX10_1 im_obj co_obj h1 (Nat.le_of_ble_eq_true rfl) ?_
  refine r_aload_n 0 dX10_init_4 rfl rfl ?_
  refine r_bipush dX10_init_5 (by decide) (by decide) ?_
  obtain ⟨h2, h⟩ := h
  obtain ⟨h3, h⟩ := h
  refine r_newa' (N := 6) 21 0 .long dX10_init_7 (by decide) rfl ac_long rfl (by decide) h2 h3 ?_
  replace h := h _ rfl
  generalize upA H (K).length (dflt 21) = H4 at h ⊢
  have k6 := kn_new (K := K) (q := (21, 6))
  replace h := h _ rfl
  generalize (K ++ [(21, 6)]) = K5 at h k6 ⊢
  obtain ⟨h7, h⟩ := h
  refine r_putfF cls10 0 dX10_init_9 (by decide) rfl rfl rfl fl_RX10_9 rfl h1 h7 (fun o => ⟨(by omega), o⟩) ?_
  replace h := h _ rfl
  generalize upA H4 (v0 : Int).toNat (up1 (H4 (v0 : Int).toNat) 0 (((K).length : Nat) : Int)) = H8 at h ⊢
  exact r_vret dX10_init_12 rfl h
set_option maxHeartbeats 4000000 in
set_option maxRecDepth 20000 in
theorem eX10_init {d : Nat} {K : Shp} {H : Mem} {q : Shp → Mem → Prop} {v0 : Int} (h : Rng K H → FX10_init_0 d 1 6 K H (qn K q) v0) : Cn mX10_init (d + 1) 1 6 [(2, v0)] K H q := Call.of rfl (Nat.le_of_ble_eq_true rfl) (fun o r => h  r)
def FX5_init_0 (d fc fs : Nat) (K : Shp) (H : Mem) (Q : Option AV → Shp → Mem → Prop) (v0 : Int) : Prop := Fr mX5_init (d + 1) fc fs none 0 [(0, (2, v0))] [] K H Q
set_option maxHeartbeats 4000000 in
set_option maxRecDepth 20000 in
theorem bX5_init_0 {d fc fs : Nat} {K : Shp} {H : Mem} {Q : Option AV → Shp → Mem → Prop} {v0 : Int} (h : ((0 : Int) ≤ v0) ∧ (K[(v0 : Int).toNat]? = some (5, 2)) ∧ ∀ H3 : Mem, H3 = upA H (v0 : Int).toNat (up1 (H (v0 : Int).toNat) 0 0) → ∀ H4 : Mem, H4 = upA H3 (v0 : Int).toNat (up1 (H3 (v0 : Int).toNat) 1 1) → Q none K H4) : FX5_init_0 d fc fs K H Q (v0) := by
  unfold FX5_init_0
  refine r_aload_n 0 dX5_init_0 rfl rfl ?_
  obtain ⟨h1, h⟩ := h
  refine r_objInit dX5_init_1 ml_RX5_1 im_obj co_obj h1 (Nat.le_of_ble_eq_true rfl) ?_
  refine r_aload_n 0 dX5_init_4 rfl rfl ?_
  refine r_lconst0 dX5_init_5 ?_
  obtain ⟨h2, h⟩ := h
  refine r_putf cls5 0 dX5_init_6 (by decide) rfl fl_RX5_7 rfl h1 h2 (fun o => o) ?_
  replace h := h _ rfl
  generalize upA H (v0 : Int).toNat (up1 (H (v0 : Int).toNat) 0 0) = H3 at h ⊢
  refine r_aload_n 0 dX5_init_9 rfl rfl ?_
  refine r_lconst1 dX5_init_10 ?_
  refine r_putf cls5 1 dX5_init_11 (by decide) rfl fl_RX5_13 rfl h1 h2 (fun o => o) ?_
  replace h := h _ rfl
  generalize upA H3 (v0 : Int).toNat (up1 (H3 (v0 : Int).toNat) 1 1) = H4 at h ⊢
  exact r_vret dX5_init_14 rfl h
set_option maxHeartbeats 4000000 in
set_option maxRecDepth 20000 in
theorem eX5_init {d : Nat} {K : Shp} {H : Mem} {q : Shp → Mem → Prop} {v0 : Int} (h : Rng K H → FX5_init_0 d 0 0 K H (qn K q) v0) : Cn mX5_init (d + 1) 0 0 [(2, v0)] K H q := Call.of rfl (Nat.le_of_ble_eq_true rfl) (fun o r => h  r)
def FX2_init_0 (d fc fs : Nat) (K : Shp) (H : Mem) (Q : Option AV → Shp → Mem → Prop) (v0 : Int) : Prop := Fr mX2_init (d + 1) fc fs none 0 [(0, (2, v0))] [] K H Q
set_option maxHeartbeats 4000000 in
set_option maxRecDepth 20000 in
theorem bX2_init_0 {d fc fs : Nat} {K : Shp} {H : Mem} {Q : Option AV → Shp → Mem → Prop} {v0 : Int} (h : ((0 : Int) ≤ v0) ∧ (K[(v0 : Int).toNat]? = some (2, 3)) ∧ ∀ H3 : Mem, H3 = upA H (v0 : Int).toNat (up1 (H (v0 : Int).toNat) 0 0) → (1 ≤ fc) ∧ (8 ≤ fs) ∧ ∀ H6 : Mem, H6 = upA H3 (K).length (dflt 20) → ∀ K7 : Shp, K7 = (K ++ [(20, 8)]) → ∀ H10 : Mem, H10 = upA H6 (v0 : Int).toNat (up1 (H6 (v0 : Int).toNat) 1 (((K).length : Nat) : Int)) → (1 ≤ (fc - 1)) ∧ (8 ≤ (fs - 8)) ∧ ∀ H13 : Mem, H13 = upA H10 (K7).length (dflt 20) → ∀ K14 : Shp, K14 = (K7 ++ [(20, 8)]) → ∀ H18 : Mem, H18 = upA H13 (v0 : Int).toNat (up1 (H13 (v0 : Int).toNat) 2 (((K7).length : Nat) : Int)) → Q none K14 H18) : FX2_init_0 d fc fs K H Q (v0) := by
  unfold FX2_init_0
  refine r_aload_n 0 dX2_init_0 rfl rfl ?_
  obtain ⟨h1, h⟩ := h
  refine r_objInit dX2_init_1 ml_RX2_3 im_obj co_obj h1 (Nat.le_of_ble_eq_true rfl) ?_
  refine r_aload_n 0 dX2_init_4 rfl rfl ?_
  refine r_iconst dX2_init_5 (by decide) (by decide) ?_
  obtain ⟨h2, h⟩ := h
  refine r_putf cls2 0 dX2_init_6 (by decide) rfl fl_RX2_9 rfl h1 h2 (fun o => o) ?_
  replace h := h _ rfl
  generalize upA H (v0 : Int).toNat (up1 (H (v0 : Int).toNat) 0 0) = H3 at h ⊢
  refine r_aload_n 0 dX2_init_9 rfl rfl ?_
  refine r_bipush dX2_init_10 (by decide) (by decide) ?_
  obtain ⟨h4, h⟩ := h
  obtain ⟨h5, h⟩ := h
  refine r_newa' (N := 8) 20 0 .int dX2_init_12 (by decide) rfl ac_int rfl (by decide) h4 h5 ?_
  replace h := h _ rfl
  generalize upA H3 (K).length (dflt 20) = H6 at h ⊢
  have k8 := kn_app (l := [(20, 8)]) h2
  have k9 := kn_new (K := K) (q := (20, 8))
  replace h := h _ rfl
  generalize (K ++ [(20, 8)]) = K7 at h k8 k9 ⊢
  refine r_putfF cls2 1 dX2_init_14 (by decide) rfl rfl rfl fl_RX2_15 rfl h1 k8 (fun o => ⟨(by omega), o⟩) ?_
  replace h := h _ rfl
  generalize upA H6 (v0 : Int).toNat (up1 (H6 (v0 : Int).toNat) 1 (((K).length : Nat) : Int)) = H10 at h ⊢
  refine r_aload_n 0 dX2_init_17 rfl rfl ?_
  refine r_bipush dX2_init_18 (by decide) (by decide) ?_
  obtain ⟨h11, h⟩ := h
  obtain ⟨h12, h⟩ := h
  refine r_newa' (N := 8) 20 0 .int dX2_init_20 (by decide) rfl ac_int rfl (by decide) h11 h12 ?_
  replace h := h _ rfl
  generalize upA H10 (K7).length (dflt 20) = H13 at h ⊢
  have k15 := kn_app (l := [(20, 8)]) k8
  have k16 := kn_app (l := [(20, 8)]) k9
  have k17 := kn_new (K := K7) (q := (20, 8))
  replace h := h _ rfl
  generalize (K7 ++ [(20, 8)]) = K14 at h k15 k16 k17 ⊢
  refine r_putfF cls2 2 dX2_init_22 (by decide) rfl rfl rfl fl_RX2_19 rfl h1 k15 (fun o => ⟨(by omega), o⟩) ?_
  replace h := h _ rfl
  generalize upA H13 (v0 : Int).toNat (up1 (H13 (v0 : Int).toNat) 2 (((K7).length : Nat) : Int)) = H18 at h ⊢
  exact r_vret dX2_init_25 rfl h
set_option maxHeartbeats 4000000 in
set_option maxRecDepth 20000 in
theorem eX2_init {d : Nat} {K : Shp} {H : Mem} {q : Shp → Mem → Prop} {v0 : Int} (h : Rng K H → FX2_init_0 d 2 16 K H (qn K q) v0) : Cn mX2_init (d + 1) 2 16 [(2, v0)] K H q := Call.of rfl (Nat.le_of_ble_eq_true rfl) (fun o r => h  r)
def FX6_init_0 (d fc fs : Nat) (K : Shp) (H : Mem) (Q : Option AV → Shp → Mem → Prop) (v0 : Int) : Prop := Fr mX6_init (d + 1) fc fs none 0 [(0, (2, v0))] [] K H Q
set_option maxHeartbeats 4000000 in
set_option maxRecDepth 20000 in
theorem bX6_init_0 {d fc fs : Nat} {K : Shp} {H : Mem} {Q : Option AV → Shp → Mem → Prop} {v0 : Int} (h : ((0 : Int) ≤ v0) ∧ (K[(v0 : Int).toNat]? = some (6, 3)) ∧ ∀ H3 : Mem, H3 = upA H (v0 : Int).toNat (up1 (H (v0 : Int).toNat) 0 0) → (1 ≤ fc) ∧ (4 ≤ fs) ∧ ∀ H6 : Mem, H6 = upA H3 (K).length (dflt 20) → ∀ K7 : Shp, K7 = (K ++ [(20, 4)]) → ∀ H10 : Mem, H10 = upA H6 (v0 : Int).toNat (up1 (H6 (v0 : Int).toNat) 1 (((K).length : Nat) : Int)) → (1 ≤ (fc - 1)) ∧ (4 ≤ (fs - 4)) ∧ ∀ H13 : Mem, H13 = upA H10 (K7).length (dflt 20) → ∀ K14 : Shp, K14 = (K7 ++ [(20, 4)]) → ∀ H18 : Mem, H18 = upA H13 (v0 : Int).toNat (up1 (H13 (v0 : Int).toNat) 2 (((K7).length : Nat) : Int)) → Q none K14 H18) : FX6_init_0 d fc fs K H Q (v0) := by
  unfold FX6_init_0
  refine r_aload_n 0 dX6_init_0 rfl rfl ?_
  obtain ⟨h1, h⟩ := h
  refine r_objInit dX6_init_1 ml_RX6_3 im_obj co_obj h1 (Nat.le_of_ble_eq_true rfl) ?_
  refine r_aload_n 0 dX6_init_4 rfl rfl ?_
  refine r_iconst dX6_init_5 (by decide) (by decide) ?_
  obtain ⟨h2, h⟩ := h
  refine r_putf cls6 0 dX6_init_6 (by decide) rfl fl_RX6_9 rfl h1 h2 (fun o => o) ?_
  replace h := h _ rfl
  generalize upA H (v0 : Int).toNat (up1 (H (v0 : Int).toNat) 0 0) = H3 at h ⊢
  refine r_aload_n 0 dX6_init_9 rfl rfl ?_
  refine r_iconst dX6_init_10 (by decide) (by decide) ?_
  obtain ⟨h4, h⟩ := h
  obtain ⟨h5, h⟩ := h
  refine r_newa' (N := 4) 20 0 .int dX6_init_11 (by decide) rfl ac_int rfl (by decide) h4 h5 ?_
  replace h := h _ rfl
  generalize upA H3 (K).length (dflt 20) = H6 at h ⊢
  have k8 := kn_app (l := [(20, 4)]) h2
  have k9 := kn_new (K := K) (q := (20, 4))
  replace h := h _ rfl
  generalize (K ++ [(20, 4)]) = K7 at h k8 k9 ⊢
  refine r_putfF cls6 1 dX6_init_13 (by decide) rfl rfl rfl fl_RX6_15 rfl h1 k8 (fun o => ⟨(by omega), o⟩) ?_
  replace h := h _ rfl
  generalize upA H6 (v0 : Int).toNat (up1 (H6 (v0 : Int).toNat) 1 (((K).length : Nat) : Int)) = H10 at h ⊢
  refine r_aload_n 0 dX6_init_16 rfl rfl ?_
  refine r_iconst dX6_init_17 (by decide) (by decide) ?_
  obtain ⟨h11, h⟩ := h
  obtain ⟨h12, h⟩ := h
  refine r_newa' (N := 4) 20 0 .int dX6_init_18 (by decide) rfl ac_int rfl (by decide) h11 h12 ?_
  replace h := h _ rfl
  generalize upA H10 (K7).length (dflt 20) = H13 at h ⊢
  have k15 := kn_app (l := [(20, 4)]) k8
  have k16 := kn_app (l := [(20, 4)]) k9
  have k17 := kn_new (K := K7) (q := (20, 4))
  replace h := h _ rfl
  generalize (K7 ++ [(20, 4)]) = K14 at h k15 k16 k17 ⊢
  refine r_putfF cls6 2 dX6_init_20 (by decide) rfl rfl rfl fl_RX6_19 rfl h1 k15 (fun o => ⟨(by omega), o⟩) ?_
  replace h := h _ rfl
  generalize upA H13 (v0 : Int).toNat (up1 (H13 (v0 : Int).toNat) 2 (((K7).length : Nat) : Int)) = H18 at h ⊢
  exact r_vret dX6_init_23 rfl h
set_option maxHeartbeats 4000000 in
set_option maxRecDepth 20000 in
theorem eX6_init {d : Nat} {K : Shp} {H : Mem} {q : Shp → Mem → Prop} {v0 : Int} (h : Rng K H → FX6_init_0 d 2 8 K H (qn K q) v0) : Cn mX6_init (d + 1) 2 8 [(2, v0)] K H q := Call.of rfl (Nat.le_of_ble_eq_true rfl) (fun o r => h  r)
def FX7_init_0 (d fc fs : Nat) (K : Shp) (H : Mem) (Q : Option AV → Shp → Mem → Prop) (v0 : Int) : Prop := Fr mX7_init (d + 1) fc fs none 0 [(0, (2, v0))] [] K H Q
set_option maxHeartbeats 4000000 in
set_option maxRecDepth 20000 in
theorem bX7_init_0 {d fc fs : Nat} {K : Shp} {H : Mem} {Q : Option AV → Shp → Mem → Prop} {v0 : Int} (h : ((0 : Int) ≤ v0) ∧ (K[(v0 : Int).toNat]? = some (7, 5)) ∧ ∀ H3 : Mem, H3 = upA H (v0 : Int).toNat (up1 (H (v0 : Int).toNat) 0 2) → ∀ H4 : Mem, H4 = upA H3 (v0 : Int).toNat (up1 (H3 (v0 : Int).toNat) 1 0) → ∀ H5 : Mem, H5 = upA H4 (v0 : Int).toNat (up1 (H4 (v0 : Int).toNat) 2 0) → (1 ≤ fc) ∧ (2 ≤ fs) ∧ ∀ H8 : Mem, H8 = upA H5 (K).length (dflt 20) → ∀ K9 : Shp, K9 = (K ++ [(20, 2)]) → ∀ H12 : Mem, H12 = upA H8 (v0 : Int).toNat (up1 (H8 (v0 : Int).toNat) 3 (((K).length : Nat) : Int)) → (1 ≤ (fc - 1)) ∧ (2 ≤ (fs - 2)) ∧ ∀ H15 : Mem, H15 = upA H12 (K9).length (dflt 20) → ∀ K16 : Shp, K16 = (K9 ++ [(20, 2)]) → ∀ H20 : Mem, H20 = upA H15 (v0 : Int).toNat (up1 (H15 (v0 : Int).toNat) 4 (((K9).length : Nat) : Int)) → Q none K16 H20) : FX7_init_0 d fc fs K H Q (v0) := by
  unfold FX7_init_0
  refine r_aload_n 0 dX7_init_0 rfl rfl ?_
  obtain ⟨h1, h⟩ := h
  refine r_objInit dX7_init_1 ml_RX7_3 im_obj co_obj h1 (Nat.le_of_ble_eq_true rfl) ?_
  refine r_aload_n 0 dX7_init_4 rfl rfl ?_
  refine r_iconst dX7_init_5 (by decide) (by decide) ?_
  obtain ⟨h2, h⟩ := h
  refine r_putf cls7 0 dX7_init_6 (by decide) rfl fl_RX7_9 rfl h1 h2 (fun o => o) ?_
  replace h := h _ rfl
  generalize upA H (v0 : Int).toNat (up1 (H (v0 : Int).toNat) 0 2) = H3 at h ⊢
  refine r_aload_n 0 dX7_init_9 rfl rfl ?_
  refine r_iconst dX7_init_10 (by decide) (by decide) ?_
  refine r_putf cls7 1 dX7_init_11 (by decide) rfl fl_RX7_15 rfl h1 h2 (fun o => o) ?_
  replace h := h _ rfl
  generalize upA H3 (v0 : Int).toNat (up1 (H3 (v0 : Int).toNat) 1 0) = H4 at h ⊢
  refine r_aload_n 0 dX7_init_14 rfl rfl ?_
  refine r_iconst dX7_init_15 (by decide) (by decide) ?_
  refine r_putf cls7 2 dX7_init_16 (by decide) rfl fl_RX7_18 rfl h1 h2 (fun o => o) ?_
  replace h := h _ rfl
  generalize upA H4 (v0 : Int).toNat (up1 (H4 (v0 : Int).toNat) 2 0) = H5 at h ⊢
  refine r_aload_n 0 dX7_init_19 rfl rfl ?_
  refine r_iconst dX7_init_20 (by decide) (by decide) ?_
  obtain ⟨h6, h⟩ := h
  obtain ⟨h7, h⟩ := h
  refine r_newa' (N := 2) 20 0 .int dX7_init_21 (by decide) rfl ac_int rfl (by decide) h6 h7 ?_
  replace h := h _ rfl
  generalize upA H5 (K).length (dflt 20) = H8 at h ⊢
  have k10 := kn_app (l := [(20, 2)]) h2
  have k11 := kn_new (K := K) (q := (20, 2))
  replace h := h _ rfl
  generalize (K ++ [(20, 2)]) = K9 at h k10 k11 ⊢
  refine r_putfF cls7 3 dX7_init_23 (by decide) rfl rfl rfl fl_RX7_21 rfl h1 k10 (fun o => ⟨(by omega), o⟩) ?_
  replace h := h _ rfl
  generalize upA H8 (v0 : Int).toNat (up1 (H8 (v0 : Int).toNat) 3 (((K).length : Nat) : Int)) = H12 at h ⊢
  refine r_aload_n 0 dX7_init_26 rfl rfl ?_
  refine r_iconst dX7_init_27 (by decide) (by decide) ?_
  obtain ⟨h13, h⟩ := h
  obtain ⟨h14, h⟩ := h
  refine r_newa' (N := 2) 20 0 .int dX7_init_28 (by decide) rfl ac_int rfl (by decide) h13 h14 ?_
  replace h := h _ rfl
  generalize upA H12 (K9).length (dflt 20) = H15 at h ⊢
  have k17 := kn_app (l := [(20, 2)]) k10
  have k18 := kn_app (l := [(20, 2)]) k11
  have k19 := kn_new (K := K9) (q := (20, 2))
  replace h := h _ rfl
  generalize (K9 ++ [(20, 2)]) = K16 at h k17 k18 k19 ⊢
  refine r_putfF cls7 4 dX7_init_30 (by decide) rfl rfl rfl fl_RX7_25 rfl h1 k17 (fun o => ⟨(by omega), o⟩) ?_
  replace h := h _ rfl
  generalize upA H15 (v0 : Int).toNat (up1 (H15 (v0 : Int).toNat) 4 (((K9).length : Nat) : Int)) = H20 at h ⊢
  exact r_vret dX7_init_33 rfl h
set_option maxHeartbeats 4000000 in
set_option maxRecDepth 20000 in
theorem eX7_init {d : Nat} {K : Shp} {H : Mem} {q : Shp → Mem → Prop} {v0 : Int} (h : Rng K H → FX7_init_0 d 2 4 K H (qn K q) v0) : Cn mX7_init (d + 1) 2 4 [(2, v0)] K H q := Call.of rfl (Nat.le_of_ble_eq_true rfl) (fun o r => h  r)
def FX4_init_0 (d fc fs : Nat) (K : Shp) (H : Mem) (Q : Option AV → Shp → Mem → Prop) (v0 : Int) : Prop := Fr mX4_init (d + 1) fc fs none 0 [(0, (2, v0))] [] K H Q
set_option maxHeartbeats 4000000 in
set_option maxRecDepth 20000 in
theorem bX4_init_0 {d fc fs : Nat} {K : Shp} {H : Mem} {Q : Option AV → Shp → Mem → Prop} {v0 : Int} (h : ((0 : Int) ≤ v0) ∧ (1 ≤ fc) ∧ (8 ≤ fs) ∧ ∀ H4 : Mem, H4 = upA H (K).length (dflt 20) → ∀ K5 : Shp, K5 = (K ++ [(20, 8)]) → (K5[(v0 : Int).toNat]? = some (4, 18)) ∧ ∀ H8 : Mem, H8 = upA H4 (v0 : Int).toNat (up1 (H4 (v0 : Int).toNat) 4 (((K).length : Nat) : Int)) → (1 ≤ (fc - 1)) ∧ (8 ≤ (fs - 8)) ∧ ∀ H11 : Mem, H11 = upA H8 (K5).length (dflt 20) → ∀ K12 : Shp, K12 = (K5 ++ [(20, 8)]) → ∀ H16 : Mem, H16 = upA H11 (v0 : Int).toNat (up1 (H11 (v0 : Int).toNat) 5 (((K5).length : Nat) : Int)) → (1 ≤ ((fc - 1) - 1)) ∧ (8 ≤ ((fs - 8) - 8)) ∧ ∀ H19 : Mem, H19 = upA H16 (K12).length (dflt 20) → ∀ K20 : Shp, K20 = (K12 ++ [(20, 8)]) → ∀ H25 : Mem, H25 = upA H19 (v0 : Int).toNat (up1 (H19 (v0 : Int).toNat) 6 (((K12).length : Nat) : Int)) → (1 ≤ (((fc - 1) - 1) - 1)) ∧ (6 ≤ (((fs - 8) - 8) - 8)) ∧ ∀ H28 : Mem, H28 = upA H25 (K20).length (dflt 20) → ∀ K29 : Shp, K29 = (K20 ++ [(20, 6)]) → ∀ H35 : Mem, H35 = upA H28 (v0 : Int).toNat (up1 (H28 (v0 : Int).toNat) 8 (((K20).length : Nat) : Int)) → (1 ≤ ((((fc - 1) - 1) - 1) - 1)) ∧ (6 ≤ ((((fs - 8) - 8) - 8) - 6)) ∧ ∀ H38 : Mem, H38 = upA H35 (K29).length (dflt 20) → ∀ K39 : Shp, K39 = (K29 ++ [(20, 6)]) → ∀ H46 : Mem, H46 = upA H38 (v0 : Int).toNat (up1 (H38 (v0 : Int).toNat) 9 (((K29).length : Nat) : Int)) → (1 ≤ (((((fc - 1) - 1) - 1) - 1) - 1)) ∧ (24 ≤ (((((fs - 8) - 8) - 8) - 6) - 6)) ∧ ∀ H49 : Mem, H49 = upA H46 (K39).length (dflt 20) → ∀ K50 : Shp, K50 = (K39 ++ [(20, 24)]) → ∀ H58 : Mem, H58 = upA H49 (v0 : Int).toNat (up1 (H49 (v0 : Int).toNat) 11 (((K39).length : Nat) : Int)) → (1 ≤ ((((((fc - 1) - 1) - 1) - 1) - 1) - 1)) ∧ (24 ≤ ((((((fs - 8) - 8) - 8) - 6) - 6) - 24)) ∧ ∀ H61 : Mem, H61 = upA H58 (K50).length (dflt 20) → ∀ K62 : Shp, K62 = (K50 ++ [(20, 24)]) → ∀ H71 : Mem, H71 = upA H61 (v0 : Int).toNat (up1 (H61 (v0 : Int).toNat) 12 (((K50).length : Nat) : Int)) → (1 ≤ (((((((fc - 1) - 1) - 1) - 1) - 1) - 1) - 1)) ∧ (6 ≤ (((((((fs - 8) - 8) - 8) - 6) - 6) - 24) - 24)) ∧ ∀ H74 : Mem, H74 = upA H71 (K62).length (dflt 20) → ∀ K75 : Shp, K75 = (K62 ++ [(20, 6)]) → ∀ H85 : Mem, H85 = upA H74 (v0 : Int).toNat (up1 (H74 (v0 : Int).toNat) 13 (((K62).length : Nat) : Int)) → ∀ H86 : Mem, H86 = upA H85 (v0 : Int).toNat (up1 (H85 (v0 : Int).toNat) 14 0) → ∀ H87 : Mem, H87 = upA H86 (v0 : Int).toNat (up1 (H86 (v0 : Int).toNat) 15 0) → ∀ H88 : Mem, H88 = upA H87 (v0 : Int).toNat (up1 (H87 (v0 : Int).toNat) 16 0) → (1 ≤ ((((((((fc - 1) - 1) - 1) - 1) - 1) - 1) - 1) - 1)) ∧ (6 ≤ ((((((((fs - 8) - 8) - 8) - 6) - 6) - 24) - 24) - 6)) ∧ ∀ H91 : Mem, H91 = upA H88 (K75).length (dflt 20) → ∀ K92 : Shp, K92 = (K75 ++ [(20, 6)]) → ∀ H103 : Mem, H103 = upA H91 (v0 : Int).toNat (up1 (H91 (v0 : Int).toNat) 17 (((K75).length : Nat) : Int)) → Cv mX4_begin d [(2, v0), (0, 10), (0, 50)] K92 H103 (fun H104 => Q none K92 H104)) : FX4_init_0 d fc fs K H Q (v0) := by
  unfold FX4_init_0
  refine r_aload_n 0 dX4_init_0 rfl rfl ?_
  obtain ⟨h1, h⟩ := h
  refine r_objInit dX4_init_1 ml_RX4_3 im_obj co_obj h1 (Nat.le_of_ble_eq_true rfl) ?_
  refine r_aload_n 0 dX4_init_4 rfl rfl ?_
  refine r_bipush dX4_init_5 (by decide) (by decide) ?_
  obtain ⟨h2, h⟩ := h
  obtain ⟨h3, h⟩ := h
  refine r_newa' (N := 8) 20 0 .int dX4_init_7 (by decide) rfl ac_int rfl (by decide) h2 h3 ?_
  replace h := h _ rfl
  generalize upA H (K).length (dflt 20) = H4 at h ⊢
  have k6 := kn_new (K := K) (q := (20, 8))
  replace h := h _ rfl
  generalize (K ++ [(20, 8)]) = K5 at h k6 ⊢
  obtain ⟨h7, h⟩ := h
  refine r_putfF cls4 4 dX4_init_9 (by decide) rfl rfl rfl fl_RX4_9 rfl h1 h7 (fun o => ⟨(by omega), o⟩) ?_
  replace h := h _ rfl
  generalize upA H4 (v0 : Int).toNat (up1 (H4 (v0 : Int).toNat) 4 (((K).length : Nat) : Int)) = H8 at h ⊢
  refine r_aload_n 0 dX4_init_12 rfl rfl ?_
  refine r_bipush dX4_init_13 (by decide) (by decide) ?_
  obtain ⟨h9, h⟩ := h
  obtain ⟨h10, h⟩ := h
  refine r_newa' (N := 8) 20 0 .int dX4_init_15 (by decide) rfl ac_int rfl (by decide) h9 h10 ?_
  replace h := h _ rfl
  generalize upA H8 (K5).length (dflt 20) = H11 at h ⊢
  have k13 := kn_app (l := [(20, 8)]) k6
  have k14 := kn_app (l := [(20, 8)]) h7
  have k15 := kn_new (K := K5) (q := (20, 8))
  replace h := h _ rfl
  generalize (K5 ++ [(20, 8)]) = K12 at h k13 k14 k15 ⊢
  refine r_putfF cls4 5 dX4_init_17 (by decide) rfl rfl rfl fl_RX4_15 rfl h1 k14 (fun o => ⟨(by omega), o⟩) ?_
  replace h := h _ rfl
  generalize upA H11 (v0 : Int).toNat (up1 (H11 (v0 : Int).toNat) 5 (((K5).length : Nat) : Int)) = H16 at h ⊢
  refine r_aload_n 0 dX4_init_20 rfl rfl ?_
  refine r_bipush dX4_init_21 (by decide) (by decide) ?_
  obtain ⟨h17, h⟩ := h
  obtain ⟨h18, h⟩ := h
  refine r_newa' (N := 8) 20 0 .int dX4_init_23 (by decide) rfl ac_int rfl (by decide) h17 h18 ?_
  replace h := h _ rfl
  generalize upA H16 (K12).length (dflt 20) = H19 at h ⊢
  have k21 := kn_app (l := [(20, 8)]) k13
  have k22 := kn_app (l := [(20, 8)]) k14
  have k23 := kn_app (l := [(20, 8)]) k15
  have k24 := kn_new (K := K12) (q := (20, 8))
  replace h := h _ rfl
  generalize (K12 ++ [(20, 8)]) = K20 at h k21 k22 k23 k24 ⊢
  refine r_putfF cls4 6 dX4_init_25 (by decide) rfl rfl rfl fl_RX4_18 rfl h1 k22 (fun o => ⟨(by omega), o⟩) ?_
  replace h := h _ rfl
  generalize upA H19 (v0 : Int).toNat (up1 (H19 (v0 : Int).toNat) 6 (((K12).length : Nat) : Int)) = H25 at h ⊢
  refine r_aload_n 0 dX4_init_28 rfl rfl ?_
  refine r_bipush dX4_init_29 (by decide) (by decide) ?_
  obtain ⟨h26, h⟩ := h
  obtain ⟨h27, h⟩ := h
  refine r_newa' (N := 6) 20 0 .int dX4_init_31 (by decide) rfl ac_int rfl (by decide) h26 h27 ?_
  replace h := h _ rfl
  generalize upA H25 (K20).length (dflt 20) = H28 at h ⊢
  have k30 := kn_app (l := [(20, 6)]) k21
  have k31 := kn_app (l := [(20, 6)]) k22
  have k32 := kn_app (l := [(20, 6)]) k23
  have k33 := kn_app (l := [(20, 6)]) k24
  have k34 := kn_new (K := K20) (q := (20, 6))
  replace h := h _ rfl
  generalize (K20 ++ [(20, 6)]) = K29 at h k30 k31 k32 k33 k34 ⊢
  refine r_putfF cls4 8 dX4_init_33 (by decide) rfl rfl rfl fl_RX4_21 rfl h1 k31 (fun o => ⟨(by omega), o⟩) ?_
  replace h := h _ rfl
  generalize upA H28 (v0 : Int).toNat (up1 (H28 (v0 : Int).toNat) 8 (((K20).length : Nat) : Int)) = H35 at h ⊢
  refine r_aload_n 0 dX4_init_36 rfl rfl ?_
  refine r_bipush dX4_init_37 (by decide) (by decide) ?_
  obtain ⟨h36, h⟩ := h
  obtain ⟨h37, h⟩ := h
  refine r_newa' (N := 6) 20 0 .int dX4_init_39 (by decide) rfl ac_int rfl (by decide) h36 h37 ?_
  replace h := h _ rfl
  generalize upA H35 (K29).length (dflt 20) = H38 at h ⊢
  have k40 := kn_app (l := [(20, 6)]) k30
  have k41 := kn_app (l := [(20, 6)]) k31
  have k42 := kn_app (l := [(20, 6)]) k32
  have k43 := kn_app (l := [(20, 6)]) k33
  have k44 := kn_app (l := [(20, 6)]) k34
  have k45 := kn_new (K := K29) (q := (20, 6))
  replace h := h _ rfl
  generalize (K29 ++ [(20, 6)]) = K39 at h k40 k41 k42 k43 k44 k45 ⊢
  refine r_putfF cls4 9 dX4_init_41 (by decide) rfl rfl rfl fl_RX4_24 rfl h1 k41 (fun o => ⟨(by omega), o⟩) ?_
  replace h := h _ rfl
  generalize upA H38 (v0 : Int).toNat (up1 (H38 (v0 : Int).toNat) 9 (((K29).length : Nat) : Int)) = H46 at h ⊢
  refine r_aload_n 0 dX4_init_44 rfl rfl ?_
  refine r_bipush dX4_init_45 (by decide) (by decide) ?_
  obtain ⟨h47, h⟩ := h
  obtain ⟨h48, h⟩ := h
  refine r_newa' (N := 24) 20 0 .int dX4_init_47 (by decide) rfl ac_int rfl (by decide) h47 h48 ?_
  replace h := h _ rfl
  generalize upA H46 (K39).length (dflt 20) = H49 at h ⊢
  have k51 := kn_app (l := [(20, 24)]) k40
  have k52 := kn_app (l := [(20, 24)]) k41
  have k53 := kn_app (l := [(20, 24)]) k42
  have k54 := kn_app (l := [(20, 24)]) k43
  have k55 := kn_app (l := [(20, 24)]) k44
  have k56 := kn_app (l := [(20, 24)]) k45
  have k57 := kn_new (K := K39) (q := (20, 24))
  replace h := h _ rfl
  generalize (K39 ++ [(20, 24)]) = K50 at h k51 k52 k53 k54 k55 k56 k57 ⊢
  refine r_putfF cls4 11 dX4_init_49 (by decide) rfl rfl rfl fl_RX4_27 rfl h1 k52 (fun o => ⟨(by omega), o⟩) ?_
  replace h := h _ rfl
  generalize upA H49 (v0 : Int).toNat (up1 (H49 (v0 : Int).toNat) 11 (((K39).length : Nat) : Int)) = H58 at h ⊢
  refine r_aload_n 0 dX4_init_52 rfl rfl ?_
  refine r_bipush dX4_init_53 (by decide) (by decide) ?_
  obtain ⟨h59, h⟩ := h
  obtain ⟨h60, h⟩ := h
  refine r_newa' (N := 24) 20 0 .int dX4_init_55 (by decide) rfl ac_int rfl (by decide) h59 h60 ?_
  replace h := h _ rfl
  generalize upA H58 (K50).length (dflt 20) = H61 at h ⊢
  have k63 := kn_app (l := [(20, 24)]) k51
  have k64 := kn_app (l := [(20, 24)]) k52
  have k65 := kn_app (l := [(20, 24)]) k53
  have k66 := kn_app (l := [(20, 24)]) k54
  have k67 := kn_app (l := [(20, 24)]) k55
  have k68 := kn_app (l := [(20, 24)]) k56
  have k69 := kn_app (l := [(20, 24)]) k57
  have k70 := kn_new (K := K50) (q := (20, 24))
  replace h := h _ rfl
  generalize (K50 ++ [(20, 24)]) = K62 at h k63 k64 k65 k66 k67 k68 k69 k70 ⊢
  refine r_putfF cls4 12 dX4_init_57 (by decide) rfl rfl rfl fl_RX4_30 rfl h1 k64 (fun o => ⟨(by omega), o⟩) ?_
  replace h := h _ rfl
  generalize upA H61 (v0 : Int).toNat (up1 (H61 (v0 : Int).toNat) 12 (((K50).length : Nat) : Int)) = H71 at h ⊢
  refine r_aload_n 0 dX4_init_60 rfl rfl ?_
  refine r_bipush dX4_init_61 (by decide) (by decide) ?_
  obtain ⟨h72, h⟩ := h
  obtain ⟨h73, h⟩ := h
  refine r_newa' (N := 6) 20 0 .int dX4_init_63 (by decide) rfl ac_int rfl (by decide) h72 h73 ?_
  replace h := h _ rfl
  generalize upA H71 (K62).length (dflt 20) = H74 at h ⊢
  have k76 := kn_app (l := [(20, 6)]) k63
  have k77 := kn_app (l := [(20, 6)]) k64
  have k78 := kn_app (l := [(20, 6)]) k65
  have k79 := kn_app (l := [(20, 6)]) k66
  have k80 := kn_app (l := [(20, 6)]) k67
  have k81 := kn_app (l := [(20, 6)]) k68
  have k82 := kn_app (l := [(20, 6)]) k69
  have k83 := kn_app (l := [(20, 6)]) k70
  have k84 := kn_new (K := K62) (q := (20, 6))
  replace h := h _ rfl
  generalize (K62 ++ [(20, 6)]) = K75 at h k76 k77 k78 k79 k80 k81 k82 k83 k84 ⊢
  refine r_putfF cls4 13 dX4_init_65 (by decide) rfl rfl rfl fl_RX4_33 rfl h1 k77 (fun o => ⟨(by omega), o⟩) ?_
  replace h := h _ rfl
  generalize upA H74 (v0 : Int).toNat (up1 (H74 (v0 : Int).toNat) 13 (((K62).length : Nat) : Int)) = H85 at h ⊢
  refine r_aload_n 0 dX4_init_68 rfl rfl ?_
  refine r_iconst dX4_init_69 (by decide) (by decide) ?_
  refine r_putf cls4 14 dX4_init_70 (by decide) rfl fl_RX4_36 rfl h1 k77 (fun _ => Or.inl rfl) ?_
  replace h := h _ rfl
  generalize upA H85 (v0 : Int).toNat (up1 (H85 (v0 : Int).toNat) 14 0) = H86 at h ⊢
  refine r_aload_n 0 dX4_init_73 rfl rfl ?_
  refine r_iconst dX4_init_74 (by decide) (by decide) ?_
  refine r_putf cls4 15 dX4_init_75 (by decide) rfl fl_RX4_40 rfl h1 k77 (fun _ => Or.inl rfl) ?_
  replace h := h _ rfl
  generalize upA H86 (v0 : Int).toNat (up1 (H86 (v0 : Int).toNat) 15 0) = H87 at h ⊢
  refine r_aload_n 0 dX4_init_78 rfl rfl ?_
  refine r_iconst dX4_init_79 (by decide) (by decide) ?_
  refine r_putf cls4 16 dX4_init_80 (by decide) rfl fl_RX4_43 rfl h1 k77 (fun o => o) ?_
  replace h := h _ rfl
  generalize upA H87 (v0 : Int).toNat (up1 (H87 (v0 : Int).toNat) 16 0) = H88 at h ⊢
  refine r_aload_n 0 dX4_init_83 rfl rfl ?_
  refine r_bipush dX4_init_84 (by decide) (by decide) ?_
  obtain ⟨h89, h⟩ := h
  obtain ⟨h90, h⟩ := h
  refine r_newa' (N := 6) 20 0 .int dX4_init_86 (by decide) rfl ac_int rfl (by decide) h89 h90 ?_
  replace h := h _ rfl
  generalize upA H88 (K75).length (dflt 20) = H91 at h ⊢
  have k93 := kn_app (l := [(20, 6)]) k76
  have k94 := kn_app (l := [(20, 6)]) k77
  have k95 := kn_app (l := [(20, 6)]) k78
  have k96 := kn_app (l := [(20, 6)]) k79
  have k97 := kn_app (l := [(20, 6)]) k80
  have k98 := kn_app (l := [(20, 6)]) k81
  have k99 := kn_app (l := [(20, 6)]) k82
  have k100 := kn_app (l := [(20, 6)]) k83
  have k101 := kn_app (l := [(20, 6)]) k84
  have k102 := kn_new (K := K75) (q := (20, 6))
  replace h := h _ rfl
  generalize (K75 ++ [(20, 6)]) = K92 at h k93 k94 k95 k96 k97 k98 k99 k100 k101 k102 ⊢
  refine r_putfF cls4 17 dX4_init_88 (by decide) rfl rfl rfl fl_RX4_47 rfl h1 k94 (fun o => ⟨(by omega), o⟩) ?_
  replace h := h _ rfl
  generalize upA H91 (v0 : Int).toNat (up1 (H91 (v0 : Int).toNat) 17 (((K75).length : Nat) : Int)) = H103 at h ⊢
  refine r_aload_n 0 dX4_init_91 rfl rfl ?_
  refine r_bipush dX4_init_92 (by decide) (by decide) ?_
  refine r_bipush dX4_init_94 (by decide) (by decide) ?_
  refine r_invV0 (M := mX4_init) (As := [(0, 10), (0, 50)]) (st := []) (X := v0) h ok_X4_begin cls4 im_X4_begin se_X4_begin ml_RX4_50 dX4_init_96 rfl h1 k94 (Nat.le_of_ble_eq_true rfl) rfl ?_
  rintro r K1 H104 ⟨rfl, rfl, h⟩ -
  show Fr mX4_init (d + 1) (((((((((fc - 1) - 1) - 1) - 1) - 1) - 1) - 1) - 1) - 1) (((((((((fs - 8) - 8) - 8) - 6) - 6) - 24) - 24) - 6) - 6) none 99 [(0, (2, v0))] [] _ H104 _
  exact r_vret dX4_init_99 rfl h
set_option maxHeartbeats 4000000 in
set_option maxRecDepth 20000 in
theorem eX4_init {d : Nat} {K : Shp} {H : Mem} {q : Shp → Mem → Prop} {v0 : Int} (h : Rng K H → FX4_init_0 d 9 96 K H (qn K q) v0) : Cn mX4_init (d + 1) 9 96 [(2, v0)] K H q := Call.of rfl (Nat.le_of_ble_eq_true rfl) (fun o r => h  r)
def FX9_init_0 (d fc fs : Nat) (K : Shp) (H : Mem) (Q : Option AV → Shp → Mem → Prop) (v0 : Int) : Prop := Fr mX9_init (d + 1) fc fs none 0 [(0, (2, v0))] [] K H Q
set_option maxHeartbeats 4000000 in
set_option maxRecDepth 20000 in
theorem bX9_init_0 {d fc fs : Nat} {K : Shp} {H : Mem} {Q : Option AV → Shp → Mem → Prop} {v0 : Int} (h : ((0 : Int) ≤ v0) ∧ (1 ≤ fc) ∧ (2 ≤ fs) ∧ ∀ H4 : Mem, H4 = upA H (K).length (dflt 5) → ∀ K5 : Shp, K5 = (K ++ [(5, 2)]) → (0 ≤ (fc - 1)) ∧ (0 ≤ (fs - 2)) ∧ Cn mX5_init d 0 0 [(2, (((K).length : Nat) : Int))] K5 H4 (fun l11 H7 => ∀ K12 : Shp, K12 = (K5 ++ l11) → (K12[(v0 : Int).toNat]? = some (9, 6)) ∧ ∀ H15 : Mem, H15 = upA H7 (v0 : Int).toNat (up1 (H7 (v0 : Int).toNat) 0 (((K).length : Nat) : Int)) → (1 ≤ ((fc - 1) - 0)) ∧ (2 ≤ ((fs - 2) - 0)) ∧ ∀ H18 : Mem, H18 = upA H15 (K12).length (dflt 5) → ∀ K19 : Shp, K19 = (K12 ++ [(5, 2)]) → (0 ≤ (((fc - 1) - 0) - 1)) ∧ (0 ≤ (((fs - 2) - 0) - 2)) ∧ Cn mX5_init d 0 0 [(2, (((K12).length : Nat) : Int))] K19 H18 (fun l27 H23 => ∀ K28 : Shp, K28 = (K19 ++ l27) → ∀ H32 : Mem, H32 = upA H23 (v0 : Int).toNat (up1 (H23 (v0 : Int).toNat) 1 (((K12).length : Nat) : Int)) → (1 ≤ ((((fc - 1) - 0) - 1) - 0)) ∧ (24 ≤ ((((fs - 2) - 0) - 2) - 0)) ∧ ∀ H35 : Mem, H35 = upA H32 (K28).length (dflt 20) → ∀ K36 : Shp, K36 = (K28 ++ [(20, 24)]) → ∀ H41 : Mem, H41 = upA H35 (v0 : Int).toNat (up1 (H35 (v0 : Int).toNat) 2 (((K28).length : Nat) : Int)) → ∀ H42 : Mem, H42 = upA H41 (v0 : Int).toNat (up1 (H41 (v0 : Int).toNat) 3 0) → ∀ H43 : Mem, H43 = upA H42 (v0 : Int).toNat (up1 (H42 (v0 : Int).toNat) 4 0) → ∀ H44 : Mem, H44 = upA H43 (v0 : Int).toNat (up1 (H43 (v0 : Int).toNat) 5 0) → Q none K36 H44))) : FX9_init_0 d fc fs K H Q (v0) := by
  unfold FX9_init_0
  refine r_aload_n 0 dX9_init_0 rfl rfl ?_
  obtain ⟨h1, h⟩ := h
  refine r_objInit dX9_init_1 ml_RX9_1 im_obj co_obj h1 (Nat.le_of_ble_eq_true rfl) ?_
  refine r_aload_n 0 dX9_init_4 rfl rfl ?_
  obtain ⟨h2, h⟩ := h
  obtain ⟨h3, h⟩ := h
  refine r_new' cls5 dX9_init_5 cl_RX9_7 ins5 ini5 dfy5 dfv5 h2 h3 ?_
  replace h := h _ rfl
  generalize upA H (K).length (dflt 5) = H4 at h ⊢
  have k6 := kn_new (K := K) (q := (5, 2))
  replace h := h _ rfl
  generalize (K ++ [(5, 2)]) = K5 at h k6 ⊢
  refine r_dup dX9_init_8 (show (2 : Nat) ≠ 1 by decide) ?_
  obtain ⟨h9, h⟩ := h
  obtain ⟨h10, h⟩ := h
  refine r_invIN' (M := mX9_init) (As := []) (mc := 0) (ms := 0) rfl h ok_X5_init rfl im_X5_init mn_RX9_9 dX9_init_9 rfl (Int.natCast_nonneg _) (Nat.le_of_ble_eq_true rfl) rfl h9 h10 ?_
  rintro r K1 H7 ⟨rfl, l11, rfl, h⟩ -
  have k13 := kn_app (l := l11) k6
  replace h := h _ rfl
  generalize (K5 ++ l11) = K12 at h k13 ⊢
  show Fr mX9_init (d + 1) ((fc - 1) - 0) ((fs - 2) - 0) none 12 [(0, (2, v0))] [(2, (((K).length : Nat) : Int)), (2, v0)] _ H7 _
  obtain ⟨h14, h⟩ := h
  refine r_putfF cls9 0 dX9_init_12 (by decide) rfl rfl rfl fl_RX9_10 rfl h1 h14 (fun o => ⟨(by omega), o⟩) ?_
  replace h := h _ rfl
  generalize upA H7 (v0 : Int).toNat (up1 (H7 (v0 : Int).toNat) 0 (((K).length : Nat) : Int)) = H15 at h ⊢
  refine r_aload_n 0 dX9_init_15 rfl rfl ?_
  obtain ⟨h16, h⟩ := h
  obtain ⟨h17, h⟩ := h
  refine r_new' cls5 dX9_init_16 cl_RX9_7 ins5 ini5 dfy5 dfv5 h16 h17 ?_
  replace h := h _ rfl
  generalize upA H15 (K12).length (dflt 5) = H18 at h ⊢
  have k20 := kn_app (l := [(5, 2)]) k13
  have k21 := kn_app (l := [(5, 2)]) h14
  have k22 := kn_new (K := K12) (q := (5, 2))
  replace h := h _ rfl
  generalize (K12 ++ [(5, 2)]) = K19 at h k20 k21 k22 ⊢
  refine r_dup dX9_init_19 (show (2 : Nat) ≠ 1 by decide) ?_
  obtain ⟨h25, h⟩ := h
  obtain ⟨h26, h⟩ := h
  refine r_invIN' (M := mX9_init) (As := []) (mc := 0) (ms := 0) rfl h ok_X5_init rfl im_X5_init mn_RX9_9 dX9_init_20 rfl (Int.natCast_nonneg _) (Nat.le_of_ble_eq_true rfl) rfl h25 h26 ?_
  rintro r K1 H23 ⟨rfl, l27, rfl, h⟩ -
  have k29 := kn_app (l := l27) k20
  have k30 := kn_app (l := l27) k21
  have k31 := kn_app (l := l27) k22
  replace h := h _ rfl
  generalize (K19 ++ l27) = K28 at h k29 k30 k31 ⊢
  show Fr mX9_init (d + 1) ((((fc - 1) - 0) - 1) - 0) ((((fs - 2) - 0) - 2) - 0) none 23 [(0, (2, v0))] [(2, (((K12).length : Nat) : Int)), (2, v0)] _ H23 _
  refine r_putfF cls9 1 dX9_init_23 (by decide) rfl rfl rfl fl_RX9_16 rfl h1 k30 (fun o => ⟨(by omega), o⟩) ?_
  replace h := h _ rfl
  generalize upA H23 (v0 : Int).toNat (up1 (H23 (v0 : Int).toNat) 1 (((K12).length : Nat) : Int)) = H32 at h ⊢
  refine r_aload_n 0 dX9_init_26 rfl rfl ?_
  refine r_bipush dX9_init_27 (by decide) (by decide) ?_
  obtain ⟨h33, h⟩ := h
  obtain ⟨h34, h⟩ := h
  refine r_newa' (N := 24) 20 0 .int dX9_init_29 (by decide) rfl ac_int rfl (by decide) h33 h34 ?_
  replace h := h _ rfl
  generalize upA H32 (K28).length (dflt 20) = H35 at h ⊢
  have k37 := kn_app (l := [(20, 24)]) k29
  have k38 := kn_app (l := [(20, 24)]) k30
  have k39 := kn_app (l := [(20, 24)]) k31
  have k40 := kn_new (K := K28) (q := (20, 24))
  replace h := h _ rfl
  generalize (K28 ++ [(20, 24)]) = K36 at h k37 k38 k39 k40 ⊢
  refine r_putfF cls9 2 dX9_init_31 (by decide) rfl rfl rfl fl_RX9_21 rfl h1 k38 (fun o => ⟨(by omega), o⟩) ?_
  replace h := h _ rfl
  generalize upA H35 (v0 : Int).toNat (up1 (H35 (v0 : Int).toNat) 2 (((K28).length : Nat) : Int)) = H41 at h ⊢
  refine r_aload_n 0 dX9_init_34 rfl rfl ?_
  refine r_iconst dX9_init_35 (by decide) (by decide) ?_
  refine r_putf cls9 3 dX9_init_36 (by decide) rfl fl_RX9_25 rfl h1 k38 (fun o => o) ?_
  replace h := h _ rfl
  generalize upA H41 (v0 : Int).toNat (up1 (H41 (v0 : Int).toNat) 3 0) = H42 at h ⊢
  refine r_aload_n 0 dX9_init_39 rfl rfl ?_
  refine r_iconst dX9_init_40 (by decide) (by decide) ?_
  refine r_putf cls9 4 dX9_init_41 (by decide) rfl fl_RX9_29 rfl h1 k38 (fun o => o) ?_
  replace h := h _ rfl
  generalize upA H42 (v0 : Int).toNat (up1 (H42 (v0 : Int).toNat) 4 0) = H43 at h ⊢
  refine r_aload_n 0 dX9_init_44 rfl rfl ?_
  refine r_lconst0 dX9_init_45 ?_
  refine r_putf cls9 5 dX9_init_46 (by decide) rfl fl_RX9_32 rfl h1 k38 (fun o => o) ?_
  replace h := h _ rfl
  generalize upA H43 (v0 : Int).toNat (up1 (H43 (v0 : Int).toNat) 5 0) = H44 at h ⊢
  exact r_vret dX9_init_49 rfl h
set_option maxHeartbeats 4000000 in
set_option maxRecDepth 20000 in
theorem eX9_init {d : Nat} {K : Shp} {H : Mem} {q : Shp → Mem → Prop} {v0 : Int} (h : Rng K H → FX9_init_0 d 3 28 K H (qn K q) v0) : Cn mX9_init (d + 1) 3 28 [(2, v0)] K H q := Call.of rfl (Nat.le_of_ble_eq_true rfl) (fun o r => h  r)
def FX3_init_0 (d fc fs : Nat) (K : Shp) (H : Mem) (Q : Option AV → Shp → Mem → Prop) (v0 : Int) : Prop := Fr mX3_init (d + 1) fc fs none 0 [(0, (2, v0))] [] K H Q
set_option maxHeartbeats 4000000 in
set_option maxRecDepth 20000 in
theorem bX3_init_0 {d fc fs : Nat} {K : Shp} {H : Mem} {Q : Option AV → Shp → Mem → Prop} {v0 : Int} (h : ((0 : Int) ≤ v0) ∧ (1 ≤ fc) ∧ (1 ≤ fs) ∧ ∀ H4 : Mem, H4 = upA H (K).length (dflt 10) → ∀ K5 : Shp, K5 = (K ++ [(10, 1)]) → (1 ≤ (fc - 1)) ∧ (6 ≤ (fs - 1)) ∧ Cn mX10_init d 1 6 [(2, (((K).length : Nat) : Int))] K5 H4 (fun l11 H7 => ∀ K12 : Shp, K12 = (K5 ++ l11) → (K12[(v0 : Int).toNat]? = some (3, 5)) ∧ ∀ H15 : Mem, H15 = upA H7 (v0 : Int).toNat (up1 (H7 (v0 : Int).toNat) 0 (((K).length : Nat) : Int)) → (1 ≤ ((fc - 1) - 1)) ∧ (1 ≤ ((fs - 1) - 6)) ∧ ∀ H18 : Mem, H18 = upA H15 (K12).length (dflt 10) → ∀ K19 : Shp, K19 = (K12 ++ [(10, 1)]) → (1 ≤ (((fc - 1) - 1) - 1)) ∧ (6 ≤ (((fs - 1) - 6) - 1)) ∧ Cn mX10_init d 1 6 [(2, (((K12).length : Nat) : Int))] K19 H18 (fun l27 H23 => ∀ K28 : Shp, K28 = (K19 ++ l27) → ∀ H32 : Mem, H32 = upA H23 (v0 : Int).toNat (up1 (H23 (v0 : Int).toNat) 1 (((K12).length : Nat) : Int)) → (1 ≤ ((((fc - 1) - 1) - 1) - 1)) ∧ (1 ≤ ((((fs - 1) - 6) - 1) - 6)) ∧ ∀ H35 : Mem, H35 = upA H32 (K28).length (dflt 10) → ∀ K36 : Shp, K36 = (K28 ++ [(10, 1)]) → (1 ≤ (((((fc - 1) - 1) - 1) - 1) - 1)) ∧ (6 ≤ (((((fs - 1) - 6) - 1) - 6) - 1)) ∧ Cn mX10_init d 1 6 [(2, (((K28).length : Nat) : Int))] K36 H35 (fun l45 H41 => ∀ K46 : Shp, K46 = (K36 ++ l45) → ∀ H51 : Mem, H51 = upA H41 (v0 : Int).toNat (up1 (H41 (v0 : Int).toNat) 2 (((K28).length : Nat) : Int)) → (1 ≤ ((((((fc - 1) - 1) - 1) - 1) - 1) - 1)) ∧ (1 ≤ ((((((fs - 1) - 6) - 1) - 6) - 1) - 6)) ∧ ∀ H54 : Mem, H54 = upA H51 (K46).length (dflt 10) → ∀ K55 : Shp, K55 = (K46 ++ [(10, 1)]) → (1 ≤ (((((((fc - 1) - 1) - 1) - 1) - 1) - 1) - 1)) ∧ (6 ≤ (((((((fs - 1) - 6) - 1) - 6) - 1) - 6) - 1)) ∧ Cn mX10_init d 1 6 [(2, (((K46).length : Nat) : Int))] K55 H54 (fun l65 H61 => ∀ K66 : Shp, K66 = (K55 ++ l65) → ∀ H72 : Mem, H72 = upA H61 (v0 : Int).toNat (up1 (H61 (v0 : Int).toNat) 3 (((K46).length : Nat) : Int)) → (1 ≤ ((((((((fc - 1) - 1) - 1) - 1) - 1) - 1) - 1) - 1)) ∧ (1 ≤ ((((((((fs - 1) - 6) - 1) - 6) - 1) - 6) - 1) - 6)) ∧ ∀ H75 : Mem, H75 = upA H72 (K66).length (dflt 10) → ∀ K76 : Shp, K76 = (K66 ++ [(10, 1)]) → (1 ≤ (((((((((fc - 1) - 1) - 1) - 1) - 1) - 1) - 1) - 1) - 1)) ∧ (6 ≤ (((((((((fs - 1) - 6) - 1) - 6) - 1) - 6) - 1) - 6) - 1)) ∧ Cn mX10_init d 1 6 [(2, (((K66).length : Nat) : Int))] K76 H75 (fun l87 H83 => ∀ K88 : Shp, K88 = (K76 ++ l87) → ∀ H95 : Mem, H95 = upA H83 (v0 : Int).toNat (up1 (H83 (v0 : Int).toNat) 4 (((K66).length : Nat) : Int)) → Q none K88 H95)))))) : FX3_init_0 d fc fs K H Q (v0) := by
  unfold FX3_init_0
  refine r_aload_n 0 dX3_init_0 rfl rfl ?_
  obtain ⟨h1, h⟩ := h
  refine r_objInit dX3_init_1 ml_RX3_1 im_obj co_obj h1 (Nat.le_of_ble_eq_true rfl) ?_
  refine r_aload_n 0 dX3_init_4 rfl rfl ?_
  obtain ⟨h2, h⟩ := h
  obtain ⟨h3, h⟩ := h
  refine r_new' cls10 dX3_init_5 cl_RX3_7 ins10 ini10 dfy10 dfv10 h2 h3 ?_
  replace h := h _ rfl
  generalize upA H (K).length (dflt 10) = H4 at h ⊢
  have k6 := kn_new (K := K) (q := (10, 1))
  replace h := h _ rfl
  generalize (K ++ [(10, 1)]) = K5 at h k6 ⊢
  refine r_dup dX3_init_8 (show (2 : Nat) ≠ 1 by decide) ?_
  obtain ⟨h9, h⟩ := h
  obtain ⟨h10, h⟩ := h
  refine r_invIN' (M := mX3_init) (As := []) (mc := 1) (ms := 6) rfl h ok_X10_init rfl im_X10_init mn_RX3_9 dX3_init_9 rfl (Int.natCast_nonneg _) (Nat.le_of_ble_eq_true rfl) rfl h9 h10 ?_
  rintro r K1 H7 ⟨rfl, l11, rfl, h⟩ -
  have k13 := kn_app (l := l11) k6
  replace h := h _ rfl
  generalize (K5 ++ l11) = K12 at h k13 ⊢
  show Fr mX3_init (d + 1) ((fc - 1) - 1) ((fs - 1) - 6) none 12 [(0, (2, v0))] [(2, (((K).length : Nat) : Int)), (2, v0)] _ H7 _
  obtain ⟨h14, h⟩ := h
  refine r_putfF cls3 0 dX3_init_12 (by decide) rfl rfl rfl fl_RX3_10 rfl h1 h14 (fun o => ⟨(by omega), o⟩) ?_
  replace h := h _ rfl
  generalize upA H7 (v0 : Int).toNat (up1 (H7 (v0 : Int).toNat) 0 (((K).length : Nat) : Int)) = H15 at h ⊢
  refine r_aload_n 0 dX3_init_15 rfl rfl ?_
  obtain ⟨h16, h⟩ := h
  obtain ⟨h17, h⟩ := h
  refine r_new' cls10 dX3_init_16 cl_RX3_7 ins10 ini10 dfy10 dfv10 h16 h17 ?_
  replace h := h _ rfl
  generalize upA H15 (K12).length (dflt 10) = H18 at h ⊢
  have k20 := kn_app (l := [(10, 1)]) k13
  have k21 := kn_app (l := [(10, 1)]) h14
  have k22 := kn_new (K := K12) (q := (10, 1))
  replace h := h _ rfl
  generalize (K12 ++ [(10, 1)]) = K19 at h k20 k21 k22 ⊢
  refine r_dup dX3_init_19 (show (2 : Nat) ≠ 1 by decide) ?_
  obtain ⟨h25, h⟩ := h
  obtain ⟨h26, h⟩ := h
  refine r_invIN' (M := mX3_init) (As := []) (mc := 1) (ms := 6) rfl h ok_X10_init rfl im_X10_init mn_RX3_9 dX3_init_20 rfl (Int.natCast_nonneg _) (Nat.le_of_ble_eq_true rfl) rfl h25 h26 ?_
  rintro r K1 H23 ⟨rfl, l27, rfl, h⟩ -
  have k29 := kn_app (l := l27) k20
  have k30 := kn_app (l := l27) k21
  have k31 := kn_app (l := l27) k22
  replace h := h _ rfl
  generalize (K19 ++ l27) = K28 at h k29 k30 k31 ⊢
  show Fr mX3_init (d + 1) ((((fc - 1) - 1) - 1) - 1) ((((fs - 1) - 6) - 1) - 6) none 23 [(0, (2, v0))] [(2, (((K12).length : Nat) : Int)), (2, v0)] _ H23 _
  refine r_putfF cls3 1 dX3_init_23 (by decide) rfl rfl rfl fl_RX3_16 rfl h1 k30 (fun o => ⟨(by omega), o⟩) ?_
  replace h := h _ rfl
  generalize upA H23 (v0 : Int).toNat (up1 (H23 (v0 : Int).toNat) 1 (((K12).length : Nat) : Int)) = H32 at h ⊢
  refine r_aload_n 0 dX3_init_26 rfl rfl ?_
  obtain ⟨h33, h⟩ := h
  obtain ⟨h34, h⟩ := h
  refine r_new' cls10 dX3_init_27 cl_RX3_7 ins10 ini10 dfy10 dfv10 h33 h34 ?_
  replace h := h _ rfl
  generalize upA H32 (K28).length (dflt 10) = H35 at h ⊢
  have k37 := kn_app (l := [(10, 1)]) k29
  have k38 := kn_app (l := [(10, 1)]) k30
  have k39 := kn_app (l := [(10, 1)]) k31
  have k40 := kn_new (K := K28) (q := (10, 1))
  replace h := h _ rfl
  generalize (K28 ++ [(10, 1)]) = K36 at h k37 k38 k39 k40 ⊢
  refine r_dup dX3_init_30 (show (2 : Nat) ≠ 1 by decide) ?_
  obtain ⟨h43, h⟩ := h
  obtain ⟨h44, h⟩ := h
  refine r_invIN' (M := mX3_init) (As := []) (mc := 1) (ms := 6) rfl h ok_X10_init rfl im_X10_init mn_RX3_9 dX3_init_31 rfl (Int.natCast_nonneg _) (Nat.le_of_ble_eq_true rfl) rfl h43 h44 ?_
  rintro r K1 H41 ⟨rfl, l45, rfl, h⟩ -
  have k47 := kn_app (l := l45) k37
  have k48 := kn_app (l := l45) k38
  have k49 := kn_app (l := l45) k39
  have k50 := kn_app (l := l45) k40
  replace h := h _ rfl
  generalize (K36 ++ l45) = K46 at h k47 k48 k49 k50 ⊢
  show Fr mX3_init (d + 1) ((((((fc - 1) - 1) - 1) - 1) - 1) - 1) ((((((fs - 1) - 6) - 1) - 6) - 1) - 6) none 34 [(0, (2, v0))] [(2, (((K28).length : Nat) : Int)), (2, v0)] _ H41 _
  refine r_putfF cls3 2 dX3_init_34 (by decide) rfl rfl rfl fl_RX3_19 rfl h1 k48 (fun o => ⟨(by omega), o⟩) ?_
  replace h := h _ rfl
  generalize upA H41 (v0 : Int).toNat (up1 (H41 (v0 : Int).toNat) 2 (((K28).length : Nat) : Int)) = H51 at h ⊢
  refine r_aload_n 0 dX3_init_37 rfl rfl ?_
  obtain ⟨h52, h⟩ := h
  obtain ⟨h53, h⟩ := h
  refine r_new' cls10 dX3_init_38 cl_RX3_7 ins10 ini10 dfy10 dfv10 h52 h53 ?_
  replace h := h _ rfl
  generalize upA H51 (K46).length (dflt 10) = H54 at h ⊢
  have k56 := kn_app (l := [(10, 1)]) k47
  have k57 := kn_app (l := [(10, 1)]) k48
  have k58 := kn_app (l := [(10, 1)]) k49
  have k59 := kn_app (l := [(10, 1)]) k50
  have k60 := kn_new (K := K46) (q := (10, 1))
  replace h := h _ rfl
  generalize (K46 ++ [(10, 1)]) = K55 at h k56 k57 k58 k59 k60 ⊢
  refine r_dup dX3_init_41 (show (2 : Nat) ≠ 1 by decide) ?_
  obtain ⟨h63, h⟩ := h
  obtain ⟨h64, h⟩ := h
  refine r_invIN' (M := mX3_init) (As := []) (mc := 1) (ms := 6) rfl h ok_X10_init rfl im_X10_init mn_RX3_9 dX3_init_42 rfl (Int.natCast_nonneg _) (Nat.le_of_ble_eq_true rfl) rfl h63 h64 ?_
  rintro r K1 H61 ⟨rfl, l65, rfl, h⟩ -
  have k67 := kn_app (l := l65) k56
  have k68 := kn_app (l := l65) k57
  have k69 := kn_app (l := l65) k58
  have k70 := kn_app (l := l65) k59
  have k71 := kn_app (l := l65) k60
  replace h := h _ rfl
  generalize (K55 ++ l65) = K66 at h k67 k68 k69 k70 k71 ⊢
  show Fr mX3_init (d + 1) ((((((((fc - 1) - 1) - 1) - 1) - 1) - 1) - 1) - 1) ((((((((fs - 1) - 6) - 1) - 6) - 1) - 6) - 1) - 6) none 45 [(0, (2, v0))] [(2, (((K46).length : Nat) : Int)), (2, v0)] _ H61 _
  refine r_putfF cls3 3 dX3_init_45 (by decide) rfl rfl rfl fl_RX3_22 rfl h1 k68 (fun o => ⟨(by omega), o⟩) ?_
  replace h := h _ rfl
  generalize upA H61 (v0 : Int).toNat (up1 (H61 (v0 : Int).toNat) 3 (((K46).length : Nat) : Int)) = H72 at h ⊢
  refine r_aload_n 0 dX3_init_48 rfl rfl ?_
  obtain ⟨h73, h⟩ := h
  obtain ⟨h74, h⟩ := h
  refine r_new' cls10 dX3_init_49 cl_RX3_7 ins10 ini10 dfy10 dfv10 h73 h74 ?_
  replace h := h _ rfl
  generalize upA H72 (K66).length (dflt 10) = H75 at h ⊢
  have k77 := kn_app (l := [(10, 1)]) k67
  have k78 := kn_app (l := [(10, 1)]) k68
  have k79 := kn_app (l := [(10, 1)]) k69
  have k80 := kn_app (l := [(10, 1)]) k70
  have k81 := kn_app (l := [(10, 1)]) k71
  have k82 := kn_new (K := K66) (q := (10, 1))
  replace h := h _ rfl
  generalize (K66 ++ [(10, 1)]) = K76 at h k77 k78 k79 k80 k81 k82 ⊢
  refine r_dup dX3_init_52 (show (2 : Nat) ≠ 1 by decide) ?_
  obtain ⟨h85, h⟩ := h
  obtain ⟨h86, h⟩ := h
  refine r_invIN' (M := mX3_init) (As := []) (mc := 1) (ms := 6) rfl h ok_X10_init rfl im_X10_init mn_RX3_9 dX3_init_53 rfl (Int.natCast_nonneg _) (Nat.le_of_ble_eq_true rfl) rfl h85 h86 ?_
  rintro r K1 H83 ⟨rfl, l87, rfl, h⟩ -
  have k89 := kn_app (l := l87) k77
  have k90 := kn_app (l := l87) k78
  have k91 := kn_app (l := l87) k79
  have k92 := kn_app (l := l87) k80
  have k93 := kn_app (l := l87) k81
  have k94 := kn_app (l := l87) k82
  replace h := h _ rfl
  generalize (K76 ++ l87) = K88 at h k89 k90 k91 k92 k93 k94 ⊢
  show Fr mX3_init (d + 1) ((((((((((fc - 1) - 1) - 1) - 1) - 1) - 1) - 1) - 1) - 1) - 1) ((((((((((fs - 1) - 6) - 1) - 6) - 1) - 6) - 1) - 6) - 1) - 6) none 56 [(0, (2, v0))] [(2, (((K66).length : Nat) : Int)), (2, v0)] _ H83 _
  refine r_putfF cls3 4 dX3_init_56 (by decide) rfl rfl rfl fl_RX3_25 rfl h1 k90 (fun o => ⟨(by omega), o⟩) ?_
  replace h := h _ rfl
  generalize upA H83 (v0 : Int).toNat (up1 (H83 (v0 : Int).toNat) 4 (((K66).length : Nat) : Int)) = H95 at h ⊢
  exact r_vret dX3_init_59 rfl h
set_option maxHeartbeats 4000000 in
set_option maxRecDepth 20000 in
theorem eX3_init {d : Nat} {K : Shp} {H : Mem} {q : Shp → Mem → Prop} {v0 : Int} (h : Rng K H → FX3_init_0 d 10 35 K H (qn K q) v0) : Cn mX3_init (d + 1) 10 35 [(2, v0)] K H q := Call.of rfl (Nat.le_of_ble_eq_true rfl) (fun o r => h  r)
def FX8_init_0 (d fc fs : Nat) (K : Shp) (H : Mem) (Q : Option AV → Shp → Mem → Prop) (v0 : Int) : Prop := Fr mX8_init (d + 1) fc fs none 0 [(0, (2, v0))] [] K H Q
set_option maxHeartbeats 4000000 in
set_option maxRecDepth 20000 in
theorem bX8_init_0 {d fc fs : Nat} {K : Shp} {H : Mem} {Q : Option AV → Shp → Mem → Prop} {v0 : Int} (h : ((0 : Int) ≤ v0) ∧ (K[(v0 : Int).toNat]? = some (8, 3)) ∧ ∀ H3 : Mem, H3 = upA H (v0 : Int).toNat (up1 (H (v0 : Int).toNat) 0 0) → (1 ≤ fc) ∧ (110 ≤ fs) ∧ ∀ H6 : Mem, H6 = upA H3 (K).length (dflt 20) → ∀ K7 : Shp, K7 = (K ++ [(20, 110)]) → ∀ H10 : Mem, H10 = upA H6 (v0 : Int).toNat (up1 (H6 (v0 : Int).toNat) 1 (((K).length : Nat) : Int)) → (1 ≤ (fc - 1)) ∧ (5 ≤ (fs - 110)) ∧ ∀ H13 : Mem, H13 = upA H10 (K7).length (dflt 3) → ∀ K14 : Shp, K14 = (K7 ++ [(3, 5)]) → (10 ≤ ((fc - 1) - 1)) ∧ (35 ≤ ((fs - 110) - 5)) ∧ Cn mX3_init d 10 35 [(2, (((K7).length : Nat) : Int))] K14 H13 (fun l22 H18 => ∀ K23 : Shp, K23 = (K14 ++ l22) → ∀ H27 : Mem, H27 = upA H18 (v0 : Int).toNat (up1 (H18 (v0 : Int).toNat) 2 (((K7).length : Nat) : Int)) → Q none K23 H27)) : FX8_init_0 d fc fs K H Q (v0) := by
  unfold FX8_init_0
  refine r_aload_n 0 dX8_init_0 rfl rfl ?_
  obtain ⟨h1, h⟩ := h
  refine r_objInit dX8_init_1 ml_RX8_3 im_obj co_obj h1 (Nat.le_of_ble_eq_true rfl) ?_
  refine r_aload_n 0 dX8_init_4 rfl rfl ?_
  refine r_iconst dX8_init_5 (by decide) (by decide) ?_
  obtain ⟨h2, h⟩ := h
  refine r_putf cls8 0 dX8_init_6 (by decide) rfl fl_RX8_9 rfl h1 h2 (fun o => o) ?_
  replace h := h _ rfl
  generalize upA H (v0 : Int).toNat (up1 (H (v0 : Int).toNat) 0 0) = H3 at h ⊢
  refine r_aload_n 0 dX8_init_9 rfl rfl ?_
  refine r_bipush dX8_init_10 (by decide) (by decide) ?_
  obtain ⟨h4, h⟩ := h
  obtain ⟨h5, h⟩ := h
  refine r_newa' (N := 110) 20 0 .int dX8_init_12 (by decide) rfl ac_int rfl (by decide) h4 h5 ?_
  replace h := h _ rfl
  generalize upA H3 (K).length (dflt 20) = H6 at h ⊢
  have k8 := kn_app (l := [(20, 110)]) h2
  have k9 := kn_new (K := K) (q := (20, 110))
  replace h := h _ rfl
  generalize (K ++ [(20, 110)]) = K7 at h k8 k9 ⊢
  refine r_putfF cls8 1 dX8_init_14 (by decide) rfl rfl rfl fl_RX8_15 rfl h1 k8 (fun o => ⟨(by omega), o⟩) ?_
  replace h := h _ rfl
  generalize upA H6 (v0 : Int).toNat (up1 (H6 (v0 : Int).toNat) 1 (((K).length : Nat) : Int)) = H10 at h ⊢
  refine r_aload_n 0 dX8_init_17 rfl rfl ?_
  obtain ⟨h11, h⟩ := h
  obtain ⟨h12, h⟩ := h
  refine r_new' cls3 dX8_init_18 cl_RX8_19 ins3 ini3 dfy3 dfv3 h11 h12 ?_
  replace h := h _ rfl
  generalize upA H10 (K7).length (dflt 3) = H13 at h ⊢
  have k15 := kn_app (l := [(3, 5)]) k8
  have k16 := kn_app (l := [(3, 5)]) k9
  have k17 := kn_new (K := K7) (q := (3, 5))
  replace h := h _ rfl
  generalize (K7 ++ [(3, 5)]) = K14 at h k15 k16 k17 ⊢
  refine r_dup dX8_init_21 (show (2 : Nat) ≠ 1 by decide) ?_
  obtain ⟨h20, h⟩ := h
  obtain ⟨h21, h⟩ := h
  refine r_invIN' (M := mX8_init) (As := []) (mc := 10) (ms := 35) rfl h ok_X3_init rfl im_X3_init mn_RX8_21 dX8_init_22 rfl (Int.natCast_nonneg _) (Nat.le_of_ble_eq_true rfl) rfl h20 h21 ?_
  rintro r K1 H18 ⟨rfl, l22, rfl, h⟩ -
  have k24 := kn_app (l := l22) k15
  have k25 := kn_app (l := l22) k16
  have k26 := kn_app (l := l22) k17
  replace h := h _ rfl
  generalize (K14 ++ l22) = K23 at h k24 k25 k26 ⊢
  show Fr mX8_init (d + 1) (((fc - 1) - 1) - 10) (((fs - 110) - 5) - 35) none 25 [(0, (2, v0))] [(2, (((K7).length : Nat) : Int)), (2, v0)] _ H18 _
  refine r_putfF cls8 2 dX8_init_25 (by decide) rfl rfl rfl fl_RX8_22 rfl h1 k24 (fun o => ⟨(by omega), o⟩) ?_
  replace h := h _ rfl
  generalize upA H18 (v0 : Int).toNat (up1 (H18 (v0 : Int).toNat) 2 (((K7).length : Nat) : Int)) = H27 at h ⊢
  exact r_vret dX8_init_28 rfl h
set_option maxHeartbeats 4000000 in
set_option maxRecDepth 20000 in
theorem eX8_init {d : Nat} {K : Shp} {H : Mem} {q : Shp → Mem → Prop} {v0 : Int} (h : Rng K H → FX8_init_0 d 12 150 K H (qn K q) v0) : Cn mX8_init (d + 1) 12 150 [(2, v0)] K H q := Call.of rfl (Nat.le_of_ble_eq_true rfl) (fun o r => h  r)
def FX0_init_0 (d fc fs : Nat) (K : Shp) (H : Mem) (Q : Option AV → Shp → Mem → Prop) (v0 : Int) : Prop := Fr mX0_init (d + 1) fc fs none 0 [(0, (2, v0))] [] K H Q
def FX0_init_113 (d fc fs : Nat) (K : Shp) (H : Mem) (Q : Option AV → Shp → Mem → Prop) (v0 : Int) (v1 : Int) : Prop := Fr mX0_init (d + 1) fc fs none 113 [(0, (2, v0)), (1, (0, v1))] [] K H Q
set_option maxHeartbeats 4000000 in
set_option maxRecDepth 20000 in
theorem bX0_init_0 {d fc fs : Nat} {K : Shp} {H : Mem} {Q : Option AV → Shp → Mem → Prop} {v0 : Int} (h : ((0 : Int) ≤ v0) ∧ (K[(v0 : Int).toNat]? = some (0, 12)) ∧ ∀ H3 : Mem, H3 = upA H (v0 : Int).toNat (up1 (H (v0 : Int).toNat) 0 0) → (1 ≤ fc) ∧ (5 ≤ fs) ∧ ∀ H6 : Mem, H6 = upA H3 (K).length (dflt 24) → ∀ K7 : Shp, K7 = (K ++ [(24, 5)]) → ∀ H10 : Mem, H10 = upA H6 (v0 : Int).toNat (up1 (H6 (v0 : Int).toNat) 1 (((K).length : Nat) : Int)) → (1 ≤ (fc - 1)) ∧ (2 ≤ (fs - 5)) ∧ ∀ H13 : Mem, H13 = upA H10 (K7).length (dflt 22) → ∀ K14 : Shp, K14 = (K7 ++ [(22, 2)]) → ∀ H18 : Mem, H18 = upA H13 (v0 : Int).toNat (up1 (H13 (v0 : Int).toNat) 2 (((K7).length : Nat) : Int)) → (1 ≤ ((fc - 1) - 1)) ∧ (5 ≤ ((fs - 5) - 2)) ∧ ∀ H21 : Mem, H21 = upA H18 (K14).length (dflt 3) → ∀ K22 : Shp, K22 = (K14 ++ [(3, 5)]) → (10 ≤ (((fc - 1) - 1) - 1)) ∧ (35 ≤ (((fs - 5) - 2) - 5)) ∧ Cn mX3_init d 10 35 [(2, (((K14).length : Nat) : Int))] K22 H21 (fun l31 H27 => ∀ K32 : Shp, K32 = (K22 ++ l31) → ∀ H37 : Mem, H37 = upA H27 (v0 : Int).toNat (up1 (H27 (v0 : Int).toNat) 3 (((K14).length : Nat) : Int)) → (1 ≤ ((((fc - 1) - 1) - 1) - 10)) ∧ (5 ≤ ((((fs - 5) - 2) - 5) - 35)) ∧ ∀ H40 : Mem, H40 = upA H37 (K32).length (dflt 3) → ∀ K41 : Shp, K41 = (K32 ++ [(3, 5)]) → (10 ≤ (((((fc - 1) - 1) - 1) - 10) - 1)) ∧ (35 ≤ (((((fs - 5) - 2) - 5) - 35) - 5)) ∧ Cn mX3_init d 10 35 [(2, (((K32).length : Nat) : Int))] K41 H40 (fun l51 H47 => ∀ K52 : Shp, K52 = (K41 ++ l51) → ∀ H58 : Mem, H58 = upA H47 (v0 : Int).toNat (up1 (H47 (v0 : Int).toNat) 4 (((K32).length : Nat) : Int)) → ∀ H59 : Mem, H59 = upA H58 (v0 : Int).toNat (up1 (H58 (v0 : Int).toNat) 5 0) → ∀ H60 : Mem, H60 = upA H59 (v0 : Int).toNat (up1 (H59 (v0 : Int).toNat) 6 0) → (1 ≤ ((((((fc - 1) - 1) - 1) - 10) - 1) - 10)) ∧ (6 ≤ ((((((fs - 5) - 2) - 5) - 35) - 5) - 35)) ∧ ∀ H63 : Mem, H63 = upA H60 (K52).length (dflt 9) → ∀ K64 : Shp, K64 = (K52 ++ [(9, 6)]) → (3 ≤ (((((((fc - 1) - 1) - 1) - 10) - 1) - 10) - 1)) ∧ (28 ≤ (((((((fs - 5) - 2) - 5) - 35) - 5) - 35) - 6)) ∧ Cn mX9_init d 3 28 [(2, (((K52).length : Nat) : Int))] K64 H63 (fun l75 H71 => ∀ K76 : Shp, K76 = (K64 ++ l75) → ∀ H83 : Mem, H83 = upA H71 (v0 : Int).toNat (up1 (H71 (v0 : Int).toNat) 7 (((K52).length : Nat) : Int)) → (1 ≤ ((((((((fc - 1) - 1) - 1) - 10) - 1) - 10) - 1) - 3)) ∧ (2 ≤ ((((((((fs - 5) - 2) - 5) - 35) - 5) - 35) - 6) - 28)) ∧ ∀ H86 : Mem, H86 = upA H83 (K76).length (dflt 5) → ∀ K87 : Shp, K87 = (K76 ++ [(5, 2)]) → (0 ≤ (((((((((fc - 1) - 1) - 1) - 10) - 1) - 10) - 1) - 3) - 1)) ∧ (0 ≤ (((((((((fs - 5) - 2) - 5) - 35) - 5) - 35) - 6) - 28) - 2)) ∧ Cn mX5_init d 0 0 [(2, (((K76).length : Nat) : Int))] K87 H86 (fun l99 H95 => ∀ K100 : Shp, K100 = (K87 ++ l99) → ∀ H108 : Mem, H108 = upA H95 (v0 : Int).toNat (up1 (H95 (v0 : Int).toNat) 8 (((K76).length : Nat) : Int)) → (1 ≤ ((((((((((fc - 1) - 1) - 1) - 10) - 1) - 10) - 1) - 3) - 1) - 0)) ∧ (2 ≤ ((((((((((fs - 5) - 2) - 5) - 35) - 5) - 35) - 6) - 28) - 2) - 0)) ∧ ∀ H111 : Mem, H111 = upA H108 (K100).length (dflt 5) → ∀ K112 : Shp, K112 = (K100 ++ [(5, 2)]) → (0 ≤ (((((((((((fc - 1) - 1) - 1) - 10) - 1) - 10) - 1) - 3) - 1) - 0) - 1)) ∧ (0 ≤ (((((((((((fs - 5) - 2) - 5) - 35) - 5) - 35) - 6) - 28) - 2) - 0) - 2)) ∧ Cn mX5_init d 0 0 [(2, (((K100).length : Nat) : Int))] K112 H111 (fun l125 H121 => ∀ K126 : Shp, K126 = (K112 ++ l125) → ∀ H135 : Mem, H135 = upA H121 (v0 : Int).toNat (up1 (H121 (v0 : Int).toNat) 9 (((K100).length : Nat) : Int)) → (1 ≤ ((((((((((((fc - 1) - 1) - 1) - 10) - 1) - 10) - 1) - 3) - 1) - 0) - 1) - 0)) ∧ (2 ≤ ((((((((((((fs - 5) - 2) - 5) - 35) - 5) - 35) - 6) - 28) - 2) - 0) - 2) - 0)) ∧ ∀ H138 : Mem, H138 = upA H135 (K126).length (dflt 5) → ∀ K139 : Shp, K139 = (K126 ++ [(5, 2)]) → (0 ≤ (((((((((((((fc - 1) - 1) - 1) - 10) - 1) - 10) - 1) - 3) - 1) - 0) - 1) - 0) - 1)) ∧ (0 ≤ (((((((((((((fs - 5) - 2) - 5) - 35) - 5) - 35) - 6) - 28) - 2) - 0) - 2) - 0) - 2)) ∧ Cn mX5_init d 0 0 [(2, (((K126).length : Nat) : Int))] K139 H138 (fun l153 H149 => ∀ K154 : Shp, K154 = (K139 ++ l153) → ∀ H164 : Mem, H164 = upA H149 (v0 : Int).toNat (up1 (H149 (v0 : Int).toNat) 10 (((K126).length : Nat) : Int)) → (1 ≤ ((((((((((((((fc - 1) - 1) - 1) - 10) - 1) - 10) - 1) - 3) - 1) - 0) - 1) - 0) - 1) - 0)) ∧ (2 ≤ ((((((((((((((fs - 5) - 2) - 5) - 35) - 5) - 35) - 6) - 28) - 2) - 0) - 2) - 0) - 2) - 0)) ∧ ∀ H167 : Mem, H167 = upA H164 (K154).length (dflt 5) → ∀ K168 : Shp, K168 = (K154 ++ [(5, 2)]) → (0 ≤ (((((((((((((((fc - 1) - 1) - 1) - 10) - 1) - 10) - 1) - 3) - 1) - 0) - 1) - 0) - 1) - 0) - 1)) ∧ (0 ≤ (((((((((((((((fs - 5) - 2) - 5) - 35) - 5) - 35) - 6) - 28) - 2) - 0) - 2) - 0) - 2) - 0) - 2)) ∧ Cn mX5_init d 0 0 [(2, (((K154).length : Nat) : Int))] K168 H167 (fun l183 H179 => ∀ K184 : Shp, K184 = (K168 ++ l183) → ∀ H195 : Mem, H195 = upA H179 (v0 : Int).toNat (up1 (H179 (v0 : Int).toNat) 11 (((K154).length : Nat) : Int)) → FX0_init_113 d ((((((((((((((((fc - 1) - 1) - 1) - 10) - 1) - 10) - 1) - 3) - 1) - 0) - 1) - 0) - 1) - 0) - 1) - 0) ((((((((((((((((fs - 5) - 2) - 5) - 35) - 5) - 35) - 6) - 28) - 2) - 0) - 2) - 0) - 2) - 0) - 2) - 0) K184 H195 Q (v0) (0))))))))) : FX0_init_0 d fc fs K H Q (v0) := by
  unfold FX0_init_0
  refine r_aload_n 0 dX0_init_0 rfl rfl ?_
  obtain ⟨h1, h⟩ := h
  refine r_objInit dX0_init_1 ml_RX0_3 im_obj co_obj h1 (Nat.le_of_ble_eq_true rfl) ?_
  refine r_aload_n 0 dX0_init_4 rfl rfl ?_
  refine r_iconst dX0_init_5 (by decide) (by decide) ?_
  obtain ⟨h2, h⟩ := h
  refine r_putf cls0 0 dX0_init_6 (by decide) rfl fl_RX0_9 rfl h1 h2 (fun o => o) ?_
  replace h := h _ rfl
  generalize upA H (v0 : Int).toNat (up1 (H (v0 : Int).toNat) 0 0) = H3 at h ⊢
  refine r_aload_n 0 dX0_init_9 rfl rfl ?_
  refine r_iconst dX0_init_10 (by decide) (by decide) ?_
  obtain ⟨h4, h⟩ := h
  obtain ⟨h5, h⟩ := h
  refine r_newq' (N := 5) 24 RX7 dX0_init_11 (by decide) cl_RX0_15 ao_RX7 rfl (by decide) h4 h5 ?_
  replace h := h _ rfl
  generalize upA H3 (K).length (dflt 24) = H6 at h ⊢
  have k8 := kn_app (l := [(24, 5)]) h2
  have k9 := kn_new (K := K) (q := (24, 5))
  replace h := h _ rfl
  generalize (K ++ [(24, 5)]) = K7 at h k8 k9 ⊢
  refine r_putfF cls0 1 dX0_init_14 (by decide) rfl rfl rfl fl_RX0_17 rfl h1 k8 (fun o => ⟨(by omega), o⟩) ?_
  replace h := h _ rfl
  generalize upA H6 (v0 : Int).toNat (up1 (H6 (v0 : Int).toNat) 1 (((K).length : Nat) : Int)) = H10 at h ⊢
  refine r_aload_n 0 dX0_init_17 rfl rfl ?_
  refine r_iconst dX0_init_18 (by decide) (by decide) ?_
  obtain ⟨h11, h⟩ := h
  obtain ⟨h12, h⟩ := h
  refine r_newa' (N := 2) 22 0 .boolean dX0_init_19 (by decide) rfl ac_boolean rfl (by decide) h11 h12 ?_
  replace h := h _ rfl
  generalize upA H10 (K7).length (dflt 22) = H13 at h ⊢
  have k15 := kn_app (l := [(22, 2)]) k8
  have k16 := kn_app (l := [(22, 2)]) k9
  have k17 := kn_new (K := K7) (q := (22, 2))
  replace h := h _ rfl
  generalize (K7 ++ [(22, 2)]) = K14 at h k15 k16 k17 ⊢
  refine r_putfF cls0 2 dX0_init_21 (by decide) rfl rfl rfl fl_RX0_21 rfl h1 k15 (fun o => ⟨(by omega), o⟩) ?_
  replace h := h _ rfl
  generalize upA H13 (v0 : Int).toNat (up1 (H13 (v0 : Int).toNat) 2 (((K7).length : Nat) : Int)) = H18 at h ⊢
  refine r_aload_n 0 dX0_init_24 rfl rfl ?_
  obtain ⟨h19, h⟩ := h
  obtain ⟨h20, h⟩ := h
  refine r_new' cls3 dX0_init_25 cl_RX0_25 ins3 ini3 dfy3 dfv3 h19 h20 ?_
  replace h := h _ rfl
  generalize upA H18 (K14).length (dflt 3) = H21 at h ⊢
  have k23 := kn_app (l := [(3, 5)]) k15
  have k24 := kn_app (l := [(3, 5)]) k16
  have k25 := kn_app (l := [(3, 5)]) k17
  have k26 := kn_new (K := K14) (q := (3, 5))
  replace h := h _ rfl
  generalize (K14 ++ [(3, 5)]) = K22 at h k23 k24 k25 k26 ⊢
  refine r_dup dX0_init_28 (show (2 : Nat) ≠ 1 by decide) ?_
  obtain ⟨h29, h⟩ := h
  obtain ⟨h30, h⟩ := h
  refine r_invIN' (M := mX0_init) (As := []) (mc := 10) (ms := 35) rfl h ok_X3_init rfl im_X3_init mn_RX0_27 dX0_init_29 rfl (Int.natCast_nonneg _) (Nat.le_of_ble_eq_true rfl) rfl h29 h30 ?_
  rintro r K1 H27 ⟨rfl, l31, rfl, h⟩ -
  have k33 := kn_app (l := l31) k23
  have k34 := kn_app (l := l31) k24
  have k35 := kn_app (l := l31) k25
  have k36 := kn_app (l := l31) k26
  replace h := h _ rfl
  generalize (K22 ++ l31) = K32 at h k33 k34 k35 k36 ⊢
  show Fr mX0_init (d + 1) ((((fc - 1) - 1) - 1) - 10) ((((fs - 5) - 2) - 5) - 35) none 32 [(0, (2, v0))] [(2, (((K14).length : Nat) : Int)), (2, v0)] _ H27 _
  refine r_putfF cls0 3 dX0_init_32 (by decide) rfl rfl rfl fl_RX0_28 rfl h1 k33 (fun o => ⟨(by omega), o⟩) ?_
  replace h := h _ rfl
  generalize upA H27 (v0 : Int).toNat (up1 (H27 (v0 : Int).toNat) 3 (((K14).length : Nat) : Int)) = H37 at h ⊢
  refine r_aload_n 0 dX0_init_35 rfl rfl ?_
  obtain ⟨h38, h⟩ := h
  obtain ⟨h39, h⟩ := h
  refine r_new' cls3 dX0_init_36 cl_RX0_25 ins3 ini3 dfy3 dfv3 h38 h39 ?_
  replace h := h _ rfl
  generalize upA H37 (K32).length (dflt 3) = H40 at h ⊢
  have k42 := kn_app (l := [(3, 5)]) k33
  have k43 := kn_app (l := [(3, 5)]) k34
  have k44 := kn_app (l := [(3, 5)]) k35
  have k45 := kn_app (l := [(3, 5)]) k36
  have k46 := kn_new (K := K32) (q := (3, 5))
  replace h := h _ rfl
  generalize (K32 ++ [(3, 5)]) = K41 at h k42 k43 k44 k45 k46 ⊢
  refine r_dup dX0_init_39 (show (2 : Nat) ≠ 1 by decide) ?_
  obtain ⟨h49, h⟩ := h
  obtain ⟨h50, h⟩ := h
  refine r_invIN' (M := mX0_init) (As := []) (mc := 10) (ms := 35) rfl h ok_X3_init rfl im_X3_init mn_RX0_27 dX0_init_40 rfl (Int.natCast_nonneg _) (Nat.le_of_ble_eq_true rfl) rfl h49 h50 ?_
  rintro r K1 H47 ⟨rfl, l51, rfl, h⟩ -
  have k53 := kn_app (l := l51) k42
  have k54 := kn_app (l := l51) k43
  have k55 := kn_app (l := l51) k44
  have k56 := kn_app (l := l51) k45
  have k57 := kn_app (l := l51) k46
  replace h := h _ rfl
  generalize (K41 ++ l51) = K52 at h k53 k54 k55 k56 k57 ⊢
  show Fr mX0_init (d + 1) ((((((fc - 1) - 1) - 1) - 10) - 1) - 10) ((((((fs - 5) - 2) - 5) - 35) - 5) - 35) none 43 [(0, (2, v0))] [(2, (((K32).length : Nat) : Int)), (2, v0)] _ H47 _
  refine r_putfF cls0 4 dX0_init_43 (by decide) rfl rfl rfl fl_RX0_32 rfl h1 k53 (fun o => ⟨(by omega), o⟩) ?_
  replace h := h _ rfl
  generalize upA H47 (v0 : Int).toNat (up1 (H47 (v0 : Int).toNat) 4 (((K32).length : Nat) : Int)) = H58 at h ⊢
  refine r_aload_n 0 dX0_init_46 rfl rfl ?_
  refine r_iconst dX0_init_47 (by decide) (by decide) ?_
  refine r_putf cls0 5 dX0_init_48 (by decide) rfl fl_RX0_35 rfl h1 k53 (fun o => o) ?_
  replace h := h _ rfl
  generalize upA H58 (v0 : Int).toNat (up1 (H58 (v0 : Int).toNat) 5 0) = H59 at h ⊢
  refine r_aload_n 0 dX0_init_51 rfl rfl ?_
  refine r_iconst dX0_init_52 (by decide) (by decide) ?_
  refine r_putf cls0 6 dX0_init_53 (by decide) rfl fl_RX0_38 rfl h1 k53 (fun o => o) ?_
  replace h := h _ rfl
  generalize upA H59 (v0 : Int).toNat (up1 (H59 (v0 : Int).toNat) 6 0) = H60 at h ⊢
  refine r_aload_n 0 dX0_init_56 rfl rfl ?_
  obtain ⟨h61, h⟩ := h
  obtain ⟨h62, h⟩ := h
  refine r_new' cls9 dX0_init_57 cl_RX0_41 ins9 ini9 dfy9 dfv9 h61 h62 ?_
  replace h := h _ rfl
  generalize upA H60 (K52).length (dflt 9) = H63 at h ⊢
  have k65 := kn_app (l := [(9, 6)]) k53
  have k66 := kn_app (l := [(9, 6)]) k54
  have k67 := kn_app (l := [(9, 6)]) k55
  have k68 := kn_app (l := [(9, 6)]) k56
  have k69 := kn_app (l := [(9, 6)]) k57
  have k70 := kn_new (K := K52) (q := (9, 6))
  replace h := h _ rfl
  generalize (K52 ++ [(9, 6)]) = K64 at h k65 k66 k67 k68 k69 k70 ⊢
  refine r_dup dX0_init_60 (show (2 : Nat) ≠ 1 by decide) ?_
  obtain ⟨h73, h⟩ := h
  obtain ⟨h74, h⟩ := h
  refine r_invIN' (M := mX0_init) (As := []) (mc := 3) (ms := 28) rfl h ok_X9_init rfl im_X9_init mn_RX0_43 dX0_init_61 rfl (Int.natCast_nonneg _) (Nat.le_of_ble_eq_true rfl) rfl h73 h74 ?_
  rintro r K1 H71 ⟨rfl, l75, rfl, h⟩ -
  have k77 := kn_app (l := l75) k65
  have k78 := kn_app (l := l75) k66
  have k79 := kn_app (l := l75) k67
  have k80 := kn_app (l := l75) k68
  have k81 := kn_app (l := l75) k69
  have k82 := kn_app (l := l75) k70
  replace h := h _ rfl
  generalize (K64 ++ l75) = K76 at h k77 k78 k79 k80 k81 k82 ⊢
  show Fr mX0_init (d + 1) ((((((((fc - 1) - 1) - 1) - 10) - 1) - 10) - 1) - 3) ((((((((fs - 5) - 2) - 5) - 35) - 5) - 35) - 6) - 28) none 64 [(0, (2, v0))] [(2, (((K52).length : Nat) : Int)), (2, v0)] _ H71 _
  refine r_putfF cls0 7 dX0_init_64 (by decide) rfl rfl rfl fl_RX0_44 rfl h1 k77 (fun o => ⟨(by omega), o⟩) ?_
  replace h := h _ rfl
  generalize upA H71 (v0 : Int).toNat (up1 (H71 (v0 : Int).toNat) 7 (((K52).length : Nat) : Int)) = H83 at h ⊢
  refine r_aload_n 0 dX0_init_67 rfl rfl ?_
  obtain ⟨h84, h⟩ := h
  obtain ⟨h85, h⟩ := h
  refine r_new' cls5 dX0_init_68 cl_RX0_48 ins5 ini5 dfy5 dfv5 h84 h85 ?_
  replace h := h _ rfl
  generalize upA H83 (K76).length (dflt 5) = H86 at h ⊢
  have k88 := kn_app (l := [(5, 2)]) k77
  have k89 := kn_app (l := [(5, 2)]) k78
  have k90 := kn_app (l := [(5, 2)]) k79
  have k91 := kn_app (l := [(5, 2)]) k80
  have k92 := kn_app (l := [(5, 2)]) k81
  have k93 := kn_app (l := [(5, 2)]) k82
  have k94 := kn_new (K := K76) (q := (5, 2))
  replace h := h _ rfl
  generalize (K76 ++ [(5, 2)]) = K87 at h k88 k89 k90 k91 k92 k93 k94 ⊢
  refine r_dup dX0_init_71 (show (2 : Nat) ≠ 1 by decide) ?_
  obtain ⟨h97, h⟩ := h
  obtain ⟨h98, h⟩ := h
  refine r_invIN' (M := mX0_init) (As := []) (mc := 0) (ms := 0) rfl h ok_X5_init rfl im_X5_init mn_RX0_50 dX0_init_72 rfl (Int.natCast_nonneg _) (Nat.le_of_ble_eq_true rfl) rfl h97 h98 ?_
  rintro r K1 H95 ⟨rfl, l99, rfl, h⟩ -
  have k101 := kn_app (l := l99) k88
  have k102 := kn_app (l := l99) k89
  have k103 := kn_app (l := l99) k90
  have k104 := kn_app (l := l99) k91
  have k105 := kn_app (l := l99) k92
  have k106 := kn_app (l := l99) k93
  have k107 := kn_app (l := l99) k94
  replace h := h _ rfl
  generalize (K87 ++ l99) = K100 at h k101 k102 k103 k104 k105 k106 k107 ⊢
  show Fr mX0_init (d + 1) ((((((((((fc - 1) - 1) - 1) - 10) - 1) - 10) - 1) - 3) - 1) - 0) ((((((((((fs - 5) - 2) - 5) - 35) - 5) - 35) - 6) - 28) - 2) - 0) none 75 [(0, (2, v0))] [(2, (((K76).length : Nat) : Int)), (2, v0)] _ H95 _
  refine r_putfF cls0 8 dX0_init_75 (by decide) rfl rfl rfl fl_RX0_51 rfl h1 k101 (fun o => ⟨(by omega), o⟩) ?_
  replace h := h _ rfl
  generalize upA H95 (v0 : Int).toNat (up1 (H95 (v0 : Int).toNat) 8 (((K76).length : Nat) : Int)) = H108 at h ⊢
  refine r_aload_n 0 dX0_init_78 rfl rfl ?_
  obtain ⟨h109, h⟩ := h
  obtain ⟨h110, h⟩ := h
  refine r_new' cls5 dX0_init_79 cl_RX0_48 ins5 ini5 dfy5 dfv5 h109 h110 ?_
  replace h := h _ rfl
  generalize upA H108 (K100).length (dflt 5) = H111 at h ⊢
  have k113 := kn_app (l := [(5, 2)]) k101
  have k114 := kn_app (l := [(5, 2)]) k102
  have k115 := kn_app (l := [(5, 2)]) k103
  have k116 := kn_app (l := [(5, 2)]) k104
  have k117 := kn_app (l := [(5, 2)]) k105
  have k118 := kn_app (l := [(5, 2)]) k106
  have k119 := kn_app (l := [(5, 2)]) k107
  have k120 := kn_new (K := K100) (q := (5, 2))
  replace h := h _ rfl
  generalize (K100 ++ [(5, 2)]) = K112 at h k113 k114 k115 k116 k117 k118 k119 k120 ⊢
  refine r_dup dX0_init_82 (show (2 : Nat) ≠ 1 by decide) ?_
  obtain ⟨h123, h⟩ := h
  obtain ⟨h124, h⟩ := h
  refine r_invIN' (M := mX0_init) (As := []) (mc := 0) (ms := 0) rfl h ok_X5_init rfl im_X5_init mn_RX0_50 dX0_init_83 rfl (Int.natCast_nonneg _) (Nat.le_of_ble_eq_true rfl) rfl h123 h124 ?_
  rintro r K1 H121 ⟨rfl, l125, rfl, h⟩ -
  have k127 := kn_app (l := l125) k113
  have k128 := kn_app (l := l125) k114
  have k129 := kn_app (l := l125) k115
  have k130 := kn_app (l := l125) k116
  have k131 := kn_app (l := l125) k117
  have k132 := kn_app (l := l125) k118
  have k133 := kn_app (l := l125) k119
  have k134 := kn_app (l := l125) k120
  replace h := h _ rfl
  generalize (K112 ++ l125) = K126 at h k127 k128 k129 k130 k131 k132 k133 k134 ⊢
  show Fr mX0_init (d + 1) ((((((((((((fc - 1) - 1) - 1) - 10) - 1) - 10) - 1) - 3) - 1) - 0) - 1) - 0) ((((((((((((fs - 5) - 2) - 5) - 35) - 5) - 35) - 6) - 28) - 2) - 0) - 2) - 0) none 86 [(0, (2, v0))] [(2, (((K100).length : Nat) : Int)), (2, v0)] _ H121 _
  refine r_putfF cls0 9 dX0_init_86 (by decide) rfl rfl rfl fl_RX0_55 rfl h1 k127 (fun o => ⟨(by omega), o⟩) ?_
  replace h := h _ rfl
  generalize upA H121 (v0 : Int).toNat (up1 (H121 (v0 : Int).toNat) 9 (((K100).length : Nat) : Int)) = H135 at h ⊢
  refine r_aload_n 0 dX0_init_89 rfl rfl ?_
  obtain ⟨h136, h⟩ := h
  obtain ⟨h137, h⟩ := h
  refine r_new' cls5 dX0_init_90 cl_RX0_48 ins5 ini5 dfy5 dfv5 h136 h137 ?_
  replace h := h _ rfl
  generalize upA H135 (K126).length (dflt 5) = H138 at h ⊢
  have k140 := kn_app (l := [(5, 2)]) k127
  have k141 := kn_app (l := [(5, 2)]) k128
  have k142 := kn_app (l := [(5, 2)]) k129
  have k143 := kn_app (l := [(5, 2)]) k130
  have k144 := kn_app (l := [(5, 2)]) k131
  have k145 := kn_app (l := [(5, 2)]) k132
  have k146 := kn_app (l := [(5, 2)]) k133
  have k147 := kn_app (l := [(5, 2)]) k134
  have k148 := kn_new (K := K126) (q := (5, 2))
  replace h := h _ rfl
  generalize (K126 ++ [(5, 2)]) = K139 at h k140 k141 k142 k143 k144 k145 k146 k147 k148 ⊢
  refine r_dup dX0_init_93 (show (2 : Nat) ≠ 1 by decide) ?_
  obtain ⟨h151, h⟩ := h
  obtain ⟨h152, h⟩ := h
  refine r_invIN' (M := mX0_init) (As := []) (mc := 0) (ms := 0) rfl h ok_X5_init rfl im_X5_init mn_RX0_50 dX0_init_94 rfl (Int.natCast_nonneg _) (Nat.le_of_ble_eq_true rfl) rfl h151 h152 ?_
  rintro r K1 H149 ⟨rfl, l153, rfl, h⟩ -
  have k155 := kn_app (l := l153) k140
  have k156 := kn_app (l := l153) k141
  have k157 := kn_app (l := l153) k142
  have k158 := kn_app (l := l153) k143
  have k159 := kn_app (l := l153) k144
  have k160 := kn_app (l := l153) k145
  have k161 := kn_app (l := l153) k146
  have k162 := kn_app (l := l153) k147
  have k163 := kn_app (l := l153) k148
  replace h := h _ rfl
  generalize (K139 ++ l153) = K154 at h k155 k156 k157 k158 k159 k160 k161 k162 k163 ⊢
  show Fr mX0_init (d + 1) ((((((((((((((fc - 1) - 1) - 1) - 10) - 1) - 10) - 1) - 3) - 1) - 0) - 1) - 0) - 1) - 0) ((((((((((((((fs - 5) - 2) - 5) - 35) - 5) - 35) - 6) - 28) - 2) - 0) - 2) - 0) - 2) - 0) none 97 [(0, (2, v0))] [(2, (((K126).length : Nat) : Int)), (2, v0)] _ H149 _
  refine r_putfF cls0 10 dX0_init_97 (by decide) rfl rfl rfl fl_RX0_58 rfl h1 k155 (fun o => ⟨(by omega), o⟩) ?_
  replace h := h _ rfl
  generalize upA H149 (v0 : Int).toNat (up1 (H149 (v0 : Int).toNat) 10 (((K126).length : Nat) : Int)) = H164 at h ⊢
  refine r_aload_n 0 dX0_init_100 rfl rfl ?_
  obtain ⟨h165, h⟩ := h
  obtain ⟨h166, h⟩ := h
  refine r_new' cls5 dX0_init_101 cl_RX0_48 ins5 ini5 dfy5 dfv5 h165 h166 ?_
  replace h := h _ rfl
  generalize upA H164 (K154).length (dflt 5) = H167 at h ⊢
  have k169 := kn_app (l := [(5, 2)]) k155
  have k170 := kn_app (l := [(5, 2)]) k156
  have k171 := kn_app (l := [(5, 2)]) k157
  have k172 := kn_app (l := [(5, 2)]) k158
  have k173 := kn_app (l := [(5, 2)]) k159
  have k174 := kn_app (l := [(5, 2)]) k160
  have k175 := kn_app (l := [(5, 2)]) k161
  have k176 := kn_app (l := [(5, 2)]) k162
  have k177 := kn_app (l := [(5, 2)]) k163
  have k178 := kn_new (K := K154) (q := (5, 2))
  replace h := h _ rfl
  generalize (K154 ++ [(5, 2)]) = K168 at h k169 k170 k171 k172 k173 k174 k175 k176 k177 k178 ⊢
  refine r_dup dX0_init_104 (show (2 : Nat) ≠ 1 by decide) ?_
  obtain ⟨h181, h⟩ := h
  obtain ⟨h182, h⟩ := h
  refine r_invIN' (M := mX0_init) (As := []) (mc := 0) (ms := 0) rfl h ok_X5_init rfl im_X5_init mn_RX0_50 dX0_init_105 rfl (Int.natCast_nonneg _) (Nat.le_of_ble_eq_true rfl) rfl h181 h182 ?_
  rintro r K1 H179 ⟨rfl, l183, rfl, h⟩ -
  have k185 := kn_app (l := l183) k169
  have k186 := kn_app (l := l183) k170
  have k187 := kn_app (l := l183) k171
  have k188 := kn_app (l := l183) k172
  have k189 := kn_app (l := l183) k173
  have k190 := kn_app (l := l183) k174
  have k191 := kn_app (l := l183) k175
  have k192 := kn_app (l := l183) k176
  have k193 := kn_app (l := l183) k177
  have k194 := kn_app (l := l183) k178
  replace h := h _ rfl
  generalize (K168 ++ l183) = K184 at h k185 k186 k187 k188 k189 k190 k191 k192 k193 k194 ⊢
  show Fr mX0_init (d + 1) ((((((((((((((((fc - 1) - 1) - 1) - 10) - 1) - 10) - 1) - 3) - 1) - 0) - 1) - 0) - 1) - 0) - 1) - 0) ((((((((((((((((fs - 5) - 2) - 5) - 35) - 5) - 35) - 6) - 28) - 2) - 0) - 2) - 0) - 2) - 0) - 2) - 0) none 108 [(0, (2, v0))] [(2, (((K154).length : Nat) : Int)), (2, v0)] _ H179 _
  refine r_putfF cls0 11 dX0_init_108 (by decide) rfl rfl rfl fl_RX0_61 rfl h1 k185 (fun o => ⟨(by omega), o⟩) ?_
  replace h := h _ rfl
  generalize upA H179 (v0 : Int).toNat (up1 (H179 (v0 : Int).toNat) 11 (((K154).length : Nat) : Int)) = H195 at h ⊢
  refine r_iconst dX0_init_111 (by decide) (by decide) ?_
  refine r_istore_n dX0_init_112 rfl (by decide) rfl ?_
  refine Fr.fewer [1, 0] rfl ?_
  exact h
set_option maxHeartbeats 4000000 in
set_option maxRecDepth 20000 in
theorem bX0_init_113 {d fc fs : Nat} {K : Shp} {H : Mem} {Q : Option AV → Shp → Mem → Prop} {v0 v1 : Int} (h : ((¬ (v1 : Int) < 5 → Q none K H) ∧ ((v1 : Int) < 5 → ((0 : Int) ≤ v0) ∧ (K[(v0 : Int).toNat]? = some (0, 12)) ∧ (1 ≤ fc) ∧ (5 ≤ fs) ∧ ∀ H6 : Mem, H6 = upA H (K).length (dflt 7) → ∀ K7 : Shp, K7 = (K ++ [(7, 5)]) → (2 ≤ (fc - 1)) ∧ (4 ≤ (fs - 5)) ∧ Cn mX7_init d 2 4 [(2, (((K).length : Nat) : Int))] K7 H6 (fun l14 H10 => ∀ K15 : Shp, K15 = (K7 ++ l14) → ((0 : Int) ≤ (H (v0 : Int).toNat 1)) ∧ ∃ n19 : Nat, (K15[((H (v0 : Int).toNat 1) : Int).toNat]? = some (24, n19)) ∧ ((0 : Int) ≤ v1) ∧ ((v1 : Int) < n19) ∧ ∀ H23 : Mem, H23 = upA H10 ((H (v0 : Int).toNat 1) : Int).toNat (up1 (H10 ((H (v0 : Int).toNat 1) : Int).toNat) (v1 : Int).toNat (((K).length : Nat) : Int)) → (inI (v1 + 1)) ∧ FX0_init_113 d ((fc - 1) - 2) ((fs - 5) - 4) K15 H23 Q (v0) ((v1 + 1)))))) : FX0_init_113 d fc fs K H Q (v0) (v1) := by
  unfold FX0_init_113
  refine r_iload_n 1 dX0_init_113 rfl rfl ?_
  refine r_iconst dX0_init_114 (by decide) (by decide) ?_
  refine r_icmp_ge (tgt := 137) dX0_init_115 (by decide) (fun c1 => ?_) (fun c1 => ?_)
  · replace h := h.1 c1
    exact r_vret dX0_init_137 rfl h
  · replace h := h.2 c1
    refine r_aload_n 0 dX0_init_118 rfl rfl ?_
    obtain ⟨h2, h⟩ := h
    obtain ⟨h3, h⟩ := h
    refine r_getf cls0 1 dX0_init_119 (by decide) fl_RX0_17 rfl h2 h3 ?_
    refine r_iload_n 1 dX0_init_122 rfl rfl ?_
    obtain ⟨h4, h⟩ := h
    obtain ⟨h5, h⟩ := h
    refine r_new' cls7 dX0_init_123 cl_RX0_15 ins7 ini7 dfy7 dfv7 h4 h5 ?_
    replace h := h _ rfl
    generalize upA H (K).length (dflt 7) = H6 at h ⊢
    have k8 := kn_app (l := [(7, 5)]) h3
    have k9 := kn_new (K := K) (q := (7, 5))
    replace h := h _ rfl
    generalize (K ++ [(7, 5)]) = K7 at h k8 k9 ⊢
    refine r_dup dX0_init_126 (show (2 : Nat) ≠ 1 by decide) ?_
    obtain ⟨h12, h⟩ := h
    obtain ⟨h13, h⟩ := h
    refine r_invIN' (M := mX0_init) (As := []) (mc := 2) (ms := 4) rfl h ok_X7_init rfl im_X7_init mn_RX0_64 dX0_init_127 rfl (Int.natCast_nonneg _) (Nat.le_of_ble_eq_true rfl) rfl h12 h13 ?_
    rintro r K1 H10 ⟨rfl, l14, rfl, h⟩ -
    have k16 := kn_app (l := l14) k8
    have k17 := kn_app (l := l14) k9
    replace h := h _ rfl
    generalize (K7 ++ l14) = K15 at h k16 k17 ⊢
    show Fr mX0_init (d + 1) ((fc - 1) - 2) ((fs - 5) - 4) none 130 [(0, (2, v0)), (1, (0, v1))] [(2, (((K).length : Nat) : Int)), (0, v1), (2, (H (v0 : Int).toNat 1))] _ H10 _
    obtain ⟨h18, h⟩ := h
    obtain ⟨n19, h⟩ := h
    obtain ⟨h20, h⟩ := h
    obtain ⟨h21, h⟩ := h
    obtain ⟨h22, h⟩ := h
    refine r_aast 24 n19 (by decide) dX0_init_130 h18 h20 h21 h22 (Int.natCast_nonneg _) k17 ?_
    replace h := h _ rfl
    generalize upA H10 ((H (v0 : Int).toNat 1) : Int).toNat (up1 (H10 ((H (v0 : Int).toNat 1) : Int).toNat) (v1 : Int).toNat (((K).length : Nat) : Int)) = H23 at h ⊢
    obtain ⟨h24, h⟩ := h
    refine r_iinc 1 dX0_init_131 (by decide) rfl h24 rfl ?_
    refine r_goto (tgt := 113) dX0_init_134 (by decide) ?_
    refine Fr.fewer [1, 0] rfl ?_
    exact h
set_option maxHeartbeats 4000000 in
set_option maxRecDepth 20000 in
theorem eX0_init {d : Nat} {K : Shp} {H : Mem} {q : Shp → Mem → Prop} {v0 : Int} (h : Rng K H → FX0_init_0 d 47 174 K H (qn K q) v0) : Cn mX0_init (d + 1) 47 174 [(2, v0)] K H q := Call.of rfl (Nat.le_of_ble_eq_true rfl) (fun o r => h  r)
def FX1_init_0 (d fc fs : Nat) (K : Shp) (H : Mem) (Q : Option AV → Shp → Mem → Prop) (v0 : Int) : Prop := Fr mX1_init (d + 1) fc fs none 0 [(0, (2, v0))] [] K H Q
set_option maxHeartbeats 4000000 in
set_option maxRecDepth 20000 in
theorem bX1_init_0 {d fc fs : Nat} {K : Shp} {H : Mem} {Q : Option AV → Shp → Mem → Prop} {v0 : Int} (h : ((0 : Int) ≤ v0) ∧ (1 ≤ fc) ∧ (6 ≤ fs) ∧ ∀ H4 : Mem, H4 = upA H (K).length (dflt 9) → ∀ K5 : Shp, K5 = (K ++ [(9, 6)]) → (3 ≤ (fc - 1)) ∧ (28 ≤ (fs - 6)) ∧ Cn mX9_init d 3 28 [(2, (((K).length : Nat) : Int))] K5 H4 (fun l11 H7 => ∀ K12 : Shp, K12 = (K5 ++ l11) → (K12[(v0 : Int).toNat]? = some (1, 8)) ∧ ∀ H15 : Mem, H15 = upA H7 (v0 : Int).toNat (up1 (H7 (v0 : Int).toNat) 0 (((K).length : Nat) : Int)) → ∀ H16 : Mem, H16 = upA H15 (v0 : Int).toNat (up1 (H15 (v0 : Int).toNat) 1 0) → (1 ≤ ((fc - 1) - 3)) ∧ (16 ≤ ((fs - 6) - 28)) ∧ ∀ H19 : Mem, H19 = upA H16 (K12).length (dflt 20) → ∀ K20 : Shp, K20 = (K12 ++ [(20, 16)]) → ∀ H24 : Mem, H24 = upA H19 (v0 : Int).toNat (up1 (H19 (v0 : Int).toNat) 2 (((K12).length : Nat) : Int)) → (1 ≤ (((fc - 1) - 3) - 1)) ∧ (16 ≤ (((fs - 6) - 28) - 16)) ∧ ∀ H27 : Mem, H27 = upA H24 (K20).length (dflt 20) → ∀ K28 : Shp, K28 = (K20 ++ [(20, 16)]) → ∀ H33 : Mem, H33 = upA H27 (v0 : Int).toNat (up1 (H27 (v0 : Int).toNat) 3 (((K20).length : Nat) : Int)) → (1 ≤ ((((fc - 1) - 3) - 1) - 1)) ∧ (16 ≤ ((((fs - 6) - 28) - 16) - 16)) ∧ ∀ H36 : Mem, H36 = upA H33 (K28).length (dflt 22) → ∀ K37 : Shp, K37 = (K28 ++ [(22, 16)]) → ∀ H43 : Mem, H43 = upA H36 (v0 : Int).toNat (up1 (H36 (v0 : Int).toNat) 4 (((K28).length : Nat) : Int)) → ∀ H44 : Mem, H44 = upA H43 (v0 : Int).toNat (up1 (H43 (v0 : Int).toNat) 5 0) → (1 ≤ (((((fc - 1) - 3) - 1) - 1) - 1)) ∧ (6 ≤ (((((fs - 6) - 28) - 16) - 16) - 16)) ∧ ∀ H47 : Mem, H47 = upA H44 (K37).length (dflt 20) → ∀ K48 : Shp, K48 = (K37 ++ [(20, 6)]) → ∀ H55 : Mem, H55 = upA H47 (v0 : Int).toNat (up1 (H47 (v0 : Int).toNat) 6 (((K37).length : Nat) : Int)) → (1 ≤ ((((((fc - 1) - 3) - 1) - 1) - 1) - 1)) ∧ (6 ≤ ((((((fs - 6) - 28) - 16) - 16) - 16) - 6)) ∧ ∀ H58 : Mem, H58 = upA H55 (K48).length (dflt 20) → ∀ K59 : Shp, K59 = (K48 ++ [(20, 6)]) → ∀ H67 : Mem, H67 = upA H58 (v0 : Int).toNat (up1 (H58 (v0 : Int).toNat) 7 (((K48).length : Nat) : Int)) → Q none K59 H67)) : FX1_init_0 d fc fs K H Q (v0) := by
  unfold FX1_init_0
  refine r_aload_n 0 dX1_init_0 rfl rfl ?_
  obtain ⟨h1, h⟩ := h
  refine r_objInit dX1_init_1 ml_RX1_3 im_obj co_obj h1 (Nat.le_of_ble_eq_true rfl) ?_
  refine r_aload_n 0 dX1_init_4 rfl rfl ?_
  obtain ⟨h2, h⟩ := h
  obtain ⟨h3, h⟩ := h
  refine r_new' cls9 dX1_init_5 cl_RX1_9 ins9 ini9 dfy9 dfv9 h2 h3 ?_
  replace h := h _ rfl
  generalize upA H (K).length (dflt 9) = H4 at h ⊢
  have k6 := kn_new (K := K) (q := (9, 6))
  replace h := h _ rfl
  generalize (K ++ [(9, 6)]) = K5 at h k6 ⊢
  refine r_dup dX1_init_8 (show (2 : Nat) ≠ 1 by decide) ?_
  obtain ⟨h9, h⟩ := h
  obtain ⟨h10, h⟩ := h
  refine r_invIN' (M := mX1_init) (As := []) (mc := 3) (ms := 28) rfl h ok_X9_init rfl im_X9_init mn_RX1_11 dX1_init_9 rfl (Int.natCast_nonneg _) (Nat.le_of_ble_eq_true rfl) rfl h9 h10 ?_
  rintro r K1 H7 ⟨rfl, l11, rfl, h⟩ -
  have k13 := kn_app (l := l11) k6
  replace h := h _ rfl
  generalize (K5 ++ l11) = K12 at h k13 ⊢
  show Fr mX1_init (d + 1) ((fc - 1) - 3) ((fs - 6) - 28) none 12 [(0, (2, v0))] [(2, (((K).length : Nat) : Int)), (2, v0)] _ H7 _
  obtain ⟨h14, h⟩ := h
  refine r_putfF cls1 0 dX1_init_12 (by decide) rfl rfl rfl fl_RX1_12 rfl h1 h14 (fun o => ⟨(by omega), o⟩) ?_
  replace h := h _ rfl
  generalize upA H7 (v0 : Int).toNat (up1 (H7 (v0 : Int).toNat) 0 (((K).length : Nat) : Int)) = H15 at h ⊢
  refine r_aload_n 0 dX1_init_15 rfl rfl ?_
  refine r_iconst dX1_init_16 (by decide) (by decide) ?_
  refine r_putf cls1 1 dX1_init_17 (by decide) rfl fl_RX1_18 rfl h1 h14 (fun o => o) ?_
  replace h := h _ rfl
  generalize upA H15 (v0 : Int).toNat (up1 (H15 (v0 : Int).toNat) 1 0) = H16 at h ⊢
  refine r_aload_n 0 dX1_init_20 rfl rfl ?_
  refine r_bipush dX1_init_21 (by decide) (by decide) ?_
  obtain ⟨h17, h⟩ := h
  obtain ⟨h18, h⟩ := h
  refine r_newa' (N := 16) 20 0 .int dX1_init_23 (by decide) rfl ac_int rfl (by decide) h17 h18 ?_
  replace h := h _ rfl
  generalize upA H16 (K12).length (dflt 20) = H19 at h ⊢
  have k21 := kn_app (l := [(20, 16)]) k13
  have k22 := kn_app (l := [(20, 16)]) h14
  have k23 := kn_new (K := K12) (q := (20, 16))
  replace h := h _ rfl
  generalize (K12 ++ [(20, 16)]) = K20 at h k21 k22 k23 ⊢
  refine r_putfF cls1 2 dX1_init_25 (by decide) rfl rfl rfl fl_RX1_22 rfl h1 k22 (fun o => ⟨(by omega), o⟩) ?_
  replace h := h _ rfl
  generalize upA H19 (v0 : Int).toNat (up1 (H19 (v0 : Int).toNat) 2 (((K12).length : Nat) : Int)) = H24 at h ⊢
  refine r_aload_n 0 dX1_init_28 rfl rfl ?_
  refine r_bipush dX1_init_29 (by decide) (by decide) ?_
  obtain ⟨h25, h⟩ := h
  obtain ⟨h26, h⟩ := h
  refine r_newa' (N := 16) 20 0 .int dX1_init_31 (by decide) rfl ac_int rfl (by decide) h25 h26 ?_
  replace h := h _ rfl
  generalize upA H24 (K20).length (dflt 20) = H27 at h ⊢
  have k29 := kn_app (l := [(20, 16)]) k21
  have k30 := kn_app (l := [(20, 16)]) k22
  have k31 := kn_app (l := [(20, 16)]) k23
  have k32 := kn_new (K := K20) (q := (20, 16))
  replace h := h _ rfl
  generalize (K20 ++ [(20, 16)]) = K28 at h k29 k30 k31 k32 ⊢
  refine r_putfF cls1 3 dX1_init_33 (by decide) rfl rfl rfl fl_RX1_26 rfl h1 k30 (fun o => ⟨(by omega), o⟩) ?_
  replace h := h _ rfl
  generalize upA H27 (v0 : Int).toNat (up1 (H27 (v0 : Int).toNat) 3 (((K20).length : Nat) : Int)) = H33 at h ⊢
  refine r_aload_n 0 dX1_init_36 rfl rfl ?_
  refine r_bipush dX1_init_37 (by decide) (by decide) ?_
  obtain ⟨h34, h⟩ := h
  obtain ⟨h35, h⟩ := h
  refine r_newa' (N := 16) 22 0 .boolean dX1_init_39 (by decide) rfl ac_boolean rfl (by decide) h34 h35 ?_
  replace h := h _ rfl
  generalize upA H33 (K28).length (dflt 22) = H36 at h ⊢
  have k38 := kn_app (l := [(22, 16)]) k29
  have k39 := kn_app (l := [(22, 16)]) k30
  have k40 := kn_app (l := [(22, 16)]) k31
  have k41 := kn_app (l := [(22, 16)]) k32
  have k42 := kn_new (K := K28) (q := (22, 16))
  replace h := h _ rfl
  generalize (K28 ++ [(22, 16)]) = K37 at h k38 k39 k40 k41 k42 ⊢
  refine r_putfF cls1 4 dX1_init_41 (by decide) rfl rfl rfl fl_RX1_29 rfl h1 k39 (fun o => ⟨(by omega), o⟩) ?_
  replace h := h _ rfl
  generalize upA H36 (v0 : Int).toNat (up1 (H36 (v0 : Int).toNat) 4 (((K28).length : Nat) : Int)) = H43 at h ⊢
  refine r_aload_n 0 dX1_init_44 rfl rfl ?_
  refine r_iconst dX1_init_45 (by decide) (by decide) ?_
  refine r_putf cls1 5 dX1_init_46 (by decide) rfl fl_RX1_33 rfl h1 k39 (fun o => o) ?_
  replace h := h _ rfl
  generalize upA H43 (v0 : Int).toNat (up1 (H43 (v0 : Int).toNat) 5 0) = H44 at h ⊢
  refine r_aload_n 0 dX1_init_49 rfl rfl ?_
  refine r_bipush dX1_init_50 (by decide) (by decide) ?_
  obtain ⟨h45, h⟩ := h
  obtain ⟨h46, h⟩ := h
  refine r_newa' (N := 6) 20 0 .int dX1_init_52 (by decide) rfl ac_int rfl (by decide) h45 h46 ?_
  replace h := h _ rfl
  generalize upA H44 (K37).length (dflt 20) = H47 at h ⊢
  have k49 := kn_app (l := [(20, 6)]) k38
  have k50 := kn_app (l := [(20, 6)]) k39
  have k51 := kn_app (l := [(20, 6)]) k40
  have k52 := kn_app (l := [(20, 6)]) k41
  have k53 := kn_app (l := [(20, 6)]) k42
  have k54 := kn_new (K := K37) (q := (20, 6))
  replace h := h _ rfl
  generalize (K37 ++ [(20, 6)]) = K48 at h k49 k50 k51 k52 k53 k54 ⊢
  refine r_putfF cls1 6 dX1_init_54 (by decide) rfl rfl rfl fl_RX1_36 rfl h1 k50 (fun o => ⟨(by omega), o⟩) ?_
  replace h := h _ rfl
  generalize upA H47 (v0 : Int).toNat (up1 (H47 (v0 : Int).toNat) 6 (((K37).length : Nat) : Int)) = H55 at h ⊢
  refine r_aload_n 0 dX1_init_57 rfl rfl ?_
  refine r_bipush dX1_init_58 (by decide) (by decide) ?_
  obtain ⟨h56, h⟩ := h
  obtain ⟨h57, h⟩ := h
  refine r_newa' (N := 6) 20 0 .int dX1_init_60 (by decide) rfl ac_int rfl (by decide) h56 h57 ?_
  replace h := h _ rfl
  generalize upA H55 (K48).length (dflt 20) = H58 at h ⊢
  have k60 := kn_app (l := [(20, 6)]) k49
  have k61 := kn_app (l := [(20, 6)]) k50
  have k62 := kn_app (l := [(20, 6)]) k51
  have k63 := kn_app (l := [(20, 6)]) k52
  have k64 := kn_app (l := [(20, 6)]) k53
  have k65 := kn_app (l := [(20, 6)]) k54
  have k66 := kn_new (K := K48) (q := (20, 6))
  replace h := h _ rfl
  generalize (K48 ++ [(20, 6)]) = K59 at h k60 k61 k62 k63 k64 k65 k66 ⊢
  refine r_putfF cls1 7 dX1_init_62 (by decide) rfl rfl rfl fl_RX1_39 rfl h1 k61 (fun o => ⟨(by omega), o⟩) ?_
  replace h := h _ rfl
  generalize upA H58 (v0 : Int).toNat (up1 (H58 (v0 : Int).toNat) 7 (((K48).length : Nat) : Int)) = H67 at h ⊢
  exact r_vret dX1_init_65 rfl h
set_option maxHeartbeats 4000000 in
set_option maxRecDepth 20000 in
theorem eX1_init {d : Nat} {K : Shp} {H : Mem} {q : Shp → Mem → Prop} {v0 : Int} (h : Rng K H → FX1_init_0 d 9 94 K H (qn K q) v0) : Cn mX1_init (d + 1) 9 94 [(2, v0)] K H q := Call.of rfl (Nat.le_of_ble_eq_true rfl) (fun o r => h  r)
def FX11_init_0 (d fc fs : Nat) (K : Shp) (H : Mem) (Q : Option AV → Shp → Mem → Prop) (v0 : Int) : Prop := Fr mX11_init (d + 1) fc fs none 0 [(0, (2, v0))] [] K H Q
def FX11_init_85 (d fc fs : Nat) (K : Shp) (H : Mem) (Q : Option AV → Shp → Mem → Prop) (v0 : Int) (v1 : Int) : Prop := Fr mX11_init (d + 1) fc fs none 85 [(0, (2, v0)), (1, (0, v1))] [] K H Q
set_option maxHeartbeats 4000000 in
set_option maxRecDepth 20000 in
theorem bX11_init_0 {d fc fs : Nat} {K : Shp} {H : Mem} {Q : Option AV → Shp → Mem → Prop} {v0 : Int} (h : ((0 : Int) ≤ v0) ∧ (K[(v0 : Int).toNat]? = some (11, 8)) ∧ ∀ H3 : Mem, H3 = upA H (v0 : Int).toNat (up1 (H (v0 : Int).toNat) 0 0) → (1 ≤ fc) ∧ (3 ≤ fs) ∧ ∀ H6 : Mem, H6 = upA H3 (K).length (dflt 8) → ∀ K7 : Shp, K7 = (K ++ [(8, 3)]) → (12 ≤ (fc - 1)) ∧ (150 ≤ (fs - 3)) ∧ Cn mX8_init d 12 150 [(2, (((K).length : Nat) : Int))] K7 H6 (fun l14 H10 => ∀ K15 : Shp, K15 = (K7 ++ l14) → ∀ H18 : Mem, H18 = upA H10 (v0 : Int).toNat (up1 (H10 (v0 : Int).toNat) 1 (((K).length : Nat) : Int)) → (1 ≤ ((fc - 1) - 12)) ∧ (4 ≤ ((fs - 3) - 150)) ∧ ∀ H21 : Mem, H21 = upA H18 (K15).length (dflt 23) → ∀ K22 : Shp, K22 = (K15 ++ [(23, 4)]) → ∀ H26 : Mem, H26 = upA H21 (v0 : Int).toNat (up1 (H21 (v0 : Int).toNat) 2 (((K15).length : Nat) : Int)) → (1 ≤ (((fc - 1) - 12) - 1)) ∧ (3 ≤ (((fs - 3) - 150) - 4)) ∧ ∀ H29 : Mem, H29 = upA H26 (K22).length (dflt 2) → ∀ K30 : Shp, K30 = (K22 ++ [(2, 3)]) → (2 ≤ ((((fc - 1) - 12) - 1) - 1)) ∧ (16 ≤ ((((fs - 3) - 150) - 4) - 3)) ∧ Cn mX2_init d 2 16 [(2, (((K22).length : Nat) : Int))] K30 H29 (fun l39 H35 => ∀ K40 : Shp, K40 = (K30 ++ l39) → ∀ H45 : Mem, H45 = upA H35 (v0 : Int).toNat (up1 (H35 (v0 : Int).toNat) 3 (((K22).length : Nat) : Int)) → (1 ≤ (((((fc - 1) - 12) - 1) - 1) - 2)) ∧ (3 ≤ (((((fs - 3) - 150) - 4) - 3) - 16)) ∧ ∀ H48 : Mem, H48 = upA H45 (K40).length (dflt 6) → ∀ K49 : Shp, K49 = (K40 ++ [(6, 3)]) → (2 ≤ ((((((fc - 1) - 12) - 1) - 1) - 2) - 1)) ∧ (8 ≤ ((((((fs - 3) - 150) - 4) - 3) - 16) - 3)) ∧ Cn mX6_init d 2 8 [(2, (((K40).length : Nat) : Int))] K49 H48 (fun l59 H55 => ∀ K60 : Shp, K60 = (K49 ++ l59) → ∀ H66 : Mem, H66 = upA H55 (v0 : Int).toNat (up1 (H55 (v0 : Int).toNat) 4 (((K40).length : Nat) : Int)) → (1 ≤ (((((((fc - 1) - 12) - 1) - 1) - 2) - 1) - 2)) ∧ (12 ≤ (((((((fs - 3) - 150) - 4) - 3) - 16) - 3) - 8)) ∧ ∀ H69 : Mem, H69 = upA H66 (K60).length (dflt 0) → ∀ K70 : Shp, K70 = (K60 ++ [(0, 12)]) → (47 ≤ ((((((((fc - 1) - 12) - 1) - 1) - 2) - 1) - 2) - 1)) ∧ (174 ≤ ((((((((fs - 3) - 150) - 4) - 3) - 16) - 3) - 8) - 12)) ∧ Cn mX0_init d 47 174 [(2, (((K60).length : Nat) : Int))] K70 H69 (fun l81 H77 => ∀ K82 : Shp, K82 = (K70 ++ l81) → ∀ H89 : Mem, H89 = upA H77 (v0 : Int).toNat (up1 (H77 (v0 : Int).toNat) 5 (((K60).length : Nat) : Int)) → (1 ≤ (((((((((fc - 1) - 12) - 1) - 1) - 2) - 1) - 2) - 1) - 47)) ∧ (6 ≤ (((((((((fs - 3) - 150) - 4) - 3) - 16) - 3) - 8) - 12) - 174)) ∧ ∀ H92 : Mem, H92 = upA H89 (K82).length (dflt 9) → ∀ K93 : Shp, K93 = (K82 ++ [(9, 6)]) → (3 ≤ ((((((((((fc - 1) - 12) - 1) - 1) - 2) - 1) - 2) - 1) - 47) - 1)) ∧ (28 ≤ ((((((((((fs - 3) - 150) - 4) - 3) - 16) - 3) - 8) - 12) - 174) - 6)) ∧ Cn mX9_init d 3 28 [(2, (((K82).length : Nat) : Int))] K93 H92 (fun l105 H101 => ∀ K106 : Shp, K106 = (K93 ++ l105) → ∀ H114 : Mem, H114 = upA H101 (v0 : Int).toNat (up1 (H101 (v0 : Int).toNat) 6 (((K82).length : Nat) : Int)) → (1 ≤ (((((((((((fc - 1) - 12) - 1) - 1) - 2) - 1) - 2) - 1) - 47) - 1) - 3)) ∧ (8 ≤ (((((((((((fs - 3) - 150) - 4) - 3) - 16) - 3) - 8) - 12) - 174) - 6) - 28)) ∧ ∀ H117 : Mem, H117 = upA H114 (K106).length (dflt 1) → ∀ K118 : Shp, K118 = (K106 ++ [(1, 8)]) → (9 ≤ ((((((((((((fc - 1) - 12) - 1) - 1) - 2) - 1) - 2) - 1) - 47) - 1) - 3) - 1)) ∧ (94 ≤ ((((((((((((fs - 3) - 150) - 4) - 3) - 16) - 3) - 8) - 12) - 174) - 6) - 28) - 8)) ∧ Cn mX1_init d 9 94 [(2, (((K106).length : Nat) : Int))] K118 H117 (fun l131 H127 => ∀ K132 : Shp, K132 = (K118 ++ l131) → ∀ H141 : Mem, H141 = upA H127 (v0 : Int).toNat (up1 (H127 (v0 : Int).toNat) 7 (((K106).length : Nat) : Int)) → FX11_init_85 d (((((((((((((fc - 1) - 12) - 1) - 1) - 2) - 1) - 2) - 1) - 47) - 1) - 3) - 1) - 9) (((((((((((((fs - 3) - 150) - 4) - 3) - 16) - 3) - 8) - 12) - 174) - 6) - 28) - 8) - 94) K132 H141 Q (v0) (0)))))))) : FX11_init_0 d fc fs K H Q (v0) := by
  unfold FX11_init_0
  refine r_aload_n 0 dX11_init_0 rfl rfl ?_
  obtain ⟨h1, h⟩ := h
  refine r_objInit dX11_init_1 ml_RX11_1 im_obj co_obj h1 (Nat.le_of_ble_eq_true rfl) ?_
  refine r_aload_n 0 dX11_init_4 rfl rfl ?_
  refine r_iconst dX11_init_5 (by decide) (by decide) ?_
  obtain ⟨h2, h⟩ := h
  refine r_putf cls11 0 dX11_init_6 (by decide) rfl fl_RX11_9 rfl h1 h2 (fun o => o) ?_
  replace h := h _ rfl
  generalize upA H (v0 : Int).toNat (up1 (H (v0 : Int).toNat) 0 0) = H3 at h ⊢
  refine r_aload_n 0 dX11_init_9 rfl rfl ?_
  obtain ⟨h4, h⟩ := h
  obtain ⟨h5, h⟩ := h
  refine r_new' cls8 dX11_init_10 cl_RX11_13 ins8 ini8 dfy8 dfv8 h4 h5 ?_
  replace h := h _ rfl
  generalize upA H3 (K).length (dflt 8) = H6 at h ⊢
  have k8 := kn_app (l := [(8, 3)]) h2
  have k9 := kn_new (K := K) (q := (8, 3))
  replace h := h _ rfl
  generalize (K ++ [(8, 3)]) = K7 at h k8 k9 ⊢
  refine r_dup dX11_init_13 (show (2 : Nat) ≠ 1 by decide) ?_
  obtain ⟨h12, h⟩ := h
  obtain ⟨h13, h⟩ := h
  refine r_invIN' (M := mX11_init) (As := []) (mc := 12) (ms := 150) rfl h ok_X8_init rfl im_X8_init mn_RX11_15 dX11_init_14 rfl (Int.natCast_nonneg _) (Nat.le_of_ble_eq_true rfl) rfl h12 h13 ?_
  rintro r K1 H10 ⟨rfl, l14, rfl, h⟩ -
  have k16 := kn_app (l := l14) k8
  have k17 := kn_app (l := l14) k9
  replace h := h _ rfl
  generalize (K7 ++ l14) = K15 at h k16 k17 ⊢
  show Fr mX11_init (d + 1) ((fc - 1) - 12) ((fs - 3) - 150) none 17 [(0, (2, v0))] [(2, (((K).length : Nat) : Int)), (2, v0)] _ H10 _
  refine r_putfF cls11 1 dX11_init_17 (by decide) rfl rfl rfl fl_RX11_16 rfl h1 k16 (fun o => ⟨(by omega), o⟩) ?_
  replace h := h _ rfl
  generalize upA H10 (v0 : Int).toNat (up1 (H10 (v0 : Int).toNat) 1 (((K).length : Nat) : Int)) = H18 at h ⊢
  refine r_aload_n 0 dX11_init_20 rfl rfl ?_
  refine r_iconst dX11_init_21 (by decide) (by decide) ?_
  obtain ⟨h19, h⟩ := h
  obtain ⟨h20, h⟩ := h
  refine r_newq' (N := 4) 23 RX4 dX11_init_22 (by decide) cl_RX11_20 ao_RX4 rfl (by decide) h19 h20 ?_
  replace h := h _ rfl
  generalize upA H18 (K15).length (dflt 23) = H21 at h ⊢
  have k23 := kn_app (l := [(23, 4)]) k16
  have k24 := kn_app (l := [(23, 4)]) k17
  have k25 := kn_new (K := K15) (q := (23, 4))
  replace h := h _ rfl
  generalize (K15 ++ [(23, 4)]) = K22 at h k23 k24 k25 ⊢
  refine r_putfF cls11 2 dX11_init_25 (by decide) rfl rfl rfl fl_RX11_22 rfl h1 k23 (fun o => ⟨(by omega), o⟩) ?_
  replace h := h _ rfl
  generalize upA H21 (v0 : Int).toNat (up1 (H21 (v0 : Int).toNat) 2 (((K15).length : Nat) : Int)) = H26 at h ⊢
  refine r_aload_n 0 dX11_init_28 rfl rfl ?_
  obtain ⟨h27, h⟩ := h
  obtain ⟨h28, h⟩ := h
  refine r_new' cls2 dX11_init_29 cl_RX11_26 ins2 ini2 dfy2 dfv2 h27 h28 ?_
  replace h := h _ rfl
  generalize upA H26 (K22).length (dflt 2) = H29 at h ⊢
  have k31 := kn_app (l := [(2, 3)]) k23
  have k32 := kn_app (l := [(2, 3)]) k24
  have k33 := kn_app (l := [(2, 3)]) k25
  have k34 := kn_new (K := K22) (q := (2, 3))
  replace h := h _ rfl
  generalize (K22 ++ [(2, 3)]) = K30 at h k31 k32 k33 k34 ⊢
  refine r_dup dX11_init_32 (show (2 : Nat) ≠ 1 by decide) ?_
  obtain ⟨h37, h⟩ := h
  obtain ⟨h38, h⟩ := h
  refine r_invIN' (M := mX11_init) (As := []) (mc := 2) (ms := 16) rfl h ok_X2_init rfl im_X2_init mn_RX11_28 dX11_init_33 rfl (Int.natCast_nonneg _) (Nat.le_of_ble_eq_true rfl) rfl h37 h38 ?_
  rintro r K1 H35 ⟨rfl, l39, rfl, h⟩ -
  have k41 := kn_app (l := l39) k31
  have k42 := kn_app (l := l39) k32
  have k43 := kn_app (l := l39) k33
  have k44 := kn_app (l := l39) k34
  replace h := h _ rfl
  generalize (K30 ++ l39) = K40 at h k41 k42 k43 k44 ⊢
  show Fr mX11_init (d + 1) (((((fc - 1) - 12) - 1) - 1) - 2) (((((fs - 3) - 150) - 4) - 3) - 16) none 36 [(0, (2, v0))] [(2, (((K22).length : Nat) : Int)), (2, v0)] _ H35 _
  refine r_putfF cls11 3 dX11_init_36 (by decide) rfl rfl rfl fl_RX11_29 rfl h1 k41 (fun o => ⟨(by omega), o⟩) ?_
  replace h := h _ rfl
  generalize upA H35 (v0 : Int).toNat (up1 (H35 (v0 : Int).toNat) 3 (((K22).length : Nat) : Int)) = H45 at h ⊢
  refine r_aload_n 0 dX11_init_39 rfl rfl ?_
  obtain ⟨h46, h⟩ := h
  obtain ⟨h47, h⟩ := h
  refine r_new' cls6 dX11_init_40 cl_RX11_33 ins6 ini6 dfy6 dfv6 h46 h47 ?_
  replace h := h _ rfl
  generalize upA H45 (K40).length (dflt 6) = H48 at h ⊢
  have k50 := kn_app (l := [(6, 3)]) k41
  have k51 := kn_app (l := [(6, 3)]) k42
  have k52 := kn_app (l := [(6, 3)]) k43
  have k53 := kn_app (l := [(6, 3)]) k44
  have k54 := kn_new (K := K40) (q := (6, 3))
  replace h := h _ rfl
  generalize (K40 ++ [(6, 3)]) = K49 at h k50 k51 k52 k53 k54 ⊢
  refine r_dup dX11_init_43 (show (2 : Nat) ≠ 1 by decide) ?_
  obtain ⟨h57, h⟩ := h
  obtain ⟨h58, h⟩ := h
  refine r_invIN' (M := mX11_init) (As := []) (mc := 2) (ms := 8) rfl h ok_X6_init rfl im_X6_init mn_RX11_35 dX11_init_44 rfl (Int.natCast_nonneg _) (Nat.le_of_ble_eq_true rfl) rfl h57 h58 ?_
  rintro r K1 H55 ⟨rfl, l59, rfl, h⟩ -
  have k61 := kn_app (l := l59) k50
  have k62 := kn_app (l := l59) k51
  have k63 := kn_app (l := l59) k52
  have k64 := kn_app (l := l59) k53
  have k65 := kn_app (l := l59) k54
  replace h := h _ rfl
  generalize (K49 ++ l59) = K60 at h k61 k62 k63 k64 k65 ⊢
  show Fr mX11_init (d + 1) (((((((fc - 1) - 12) - 1) - 1) - 2) - 1) - 2) (((((((fs - 3) - 150) - 4) - 3) - 16) - 3) - 8) none 47 [(0, (2, v0))] [(2, (((K40).length : Nat) : Int)), (2, v0)] _ H55 _
  refine r_putfF cls11 4 dX11_init_47 (by decide) rfl rfl rfl fl_RX11_36 rfl h1 k61 (fun o => ⟨(by omega), o⟩) ?_
  replace h := h _ rfl
  generalize upA H55 (v0 : Int).toNat (up1 (H55 (v0 : Int).toNat) 4 (((K40).length : Nat) : Int)) = H66 at h ⊢
  refine r_aload_n 0 dX11_init_50 rfl rfl ?_
  obtain ⟨h67, h⟩ := h
  obtain ⟨h68, h⟩ := h
  refine r_new' cls0 dX11_init_51 cl_RX11_40 ins0 ini0 dfy0 dfv0 h67 h68 ?_
  replace h := h _ rfl
  generalize upA H66 (K60).length (dflt 0) = H69 at h ⊢
  have k71 := kn_app (l := [(0, 12)]) k61
  have k72 := kn_app (l := [(0, 12)]) k62
  have k73 := kn_app (l := [(0, 12)]) k63
  have k74 := kn_app (l := [(0, 12)]) k64
  have k75 := kn_app (l := [(0, 12)]) k65
  have k76 := kn_new (K := K60) (q := (0, 12))
  replace h := h _ rfl
  generalize (K60 ++ [(0, 12)]) = K70 at h k71 k72 k73 k74 k75 k76 ⊢
  refine r_dup dX11_init_54 (show (2 : Nat) ≠ 1 by decide) ?_
  obtain ⟨h79, h⟩ := h
  obtain ⟨h80, h⟩ := h
  refine r_invI' (M := mX11_init) (As := []) (mc := 47) (ms := 174) rfl h ok_X0_init rfl im_X0_init ml_RX11_42 dX11_init_55 rfl (Int.natCast_nonneg _) (Nat.le_of_ble_eq_true rfl) rfl h79 h80 ?_
  rintro r K1 H77 ⟨rfl, l81, rfl, h⟩ -
  have k83 := kn_app (l := l81) k71
  have k84 := kn_app (l := l81) k72
  have k85 := kn_app (l := l81) k73
  have k86 := kn_app (l := l81) k74
  have k87 := kn_app (l := l81) k75
  have k88 := kn_app (l := l81) k76
  replace h := h _ rfl
  generalize (K70 ++ l81) = K82 at h k83 k84 k85 k86 k87 k88 ⊢
  show Fr mX11_init (d + 1) (((((((((fc - 1) - 12) - 1) - 1) - 2) - 1) - 2) - 1) - 47) (((((((((fs - 3) - 150) - 4) - 3) - 16) - 3) - 8) - 12) - 174) none 58 [(0, (2, v0))] [(2, (((K60).length : Nat) : Int)), (2, v0)] _ H77 _
  refine r_putfF cls11 5 dX11_init_58 (by decide) rfl rfl rfl fl_RX11_43 rfl h1 k83 (fun o => ⟨(by omega), o⟩) ?_
  replace h := h _ rfl
  generalize upA H77 (v0 : Int).toNat (up1 (H77 (v0 : Int).toNat) 5 (((K60).length : Nat) : Int)) = H89 at h ⊢
  refine r_aload_n 0 dX11_init_61 rfl rfl ?_
  obtain ⟨h90, h⟩ := h
  obtain ⟨h91, h⟩ := h
  refine r_new' cls9 dX11_init_62 cl_RX11_47 ins9 ini9 dfy9 dfv9 h90 h91 ?_
  replace h := h _ rfl
  generalize upA H89 (K82).length (dflt 9) = H92 at h ⊢
  have k94 := kn_app (l := [(9, 6)]) k83
  have k95 := kn_app (l := [(9, 6)]) k84
  have k96 := kn_app (l := [(9, 6)]) k85
  have k97 := kn_app (l := [(9, 6)]) k86
  have k98 := kn_app (l := [(9, 6)]) k87
  have k99 := kn_app (l := [(9, 6)]) k88
  have k100 := kn_new (K := K82) (q := (9, 6))
  replace h := h _ rfl
  generalize (K82 ++ [(9, 6)]) = K93 at h k94 k95 k96 k97 k98 k99 k100 ⊢
  refine r_dup dX11_init_65 (show (2 : Nat) ≠ 1 by decide) ?_
  obtain ⟨h103, h⟩ := h
  obtain ⟨h104, h⟩ := h
  refine r_invIN' (M := mX11_init) (As := []) (mc := 3) (ms := 28) rfl h ok_X9_init rfl im_X9_init mn_RX11_49 dX11_init_66 rfl (Int.natCast_nonneg _) (Nat.le_of_ble_eq_true rfl) rfl h103 h104 ?_
  rintro r K1 H101 ⟨rfl, l105, rfl, h⟩ -
  have k107 := kn_app (l := l105) k94
  have k108 := kn_app (l := l105) k95
  have k109 := kn_app (l := l105) k96
  have k110 := kn_app (l := l105) k97
  have k111 := kn_app (l := l105) k98
  have k112 := kn_app (l := l105) k99
  have k113 := kn_app (l := l105) k100
  replace h := h _ rfl
  generalize (K93 ++ l105) = K106 at h k107 k108 k109 k110 k111 k112 k113 ⊢
  show Fr mX11_init (d + 1) (((((((((((fc - 1) - 12) - 1) - 1) - 2) - 1) - 2) - 1) - 47) - 1) - 3) (((((((((((fs - 3) - 150) - 4) - 3) - 16) - 3) - 8) - 12) - 174) - 6) - 28) none 69 [(0, (2, v0))] [(2, (((K82).length : Nat) : Int)), (2, v0)] _ H101 _
  refine r_putfF cls11 6 dX11_init_69 (by decide) rfl rfl rfl fl_RX11_50 rfl h1 k107 (fun o => ⟨(by omega), o⟩) ?_
  replace h := h _ rfl
  generalize upA H101 (v0 : Int).toNat (up1 (H101 (v0 : Int).toNat) 6 (((K82).length : Nat) : Int)) = H114 at h ⊢
  refine r_aload_n 0 dX11_init_72 rfl rfl ?_
  obtain ⟨h115, h⟩ := h
  obtain ⟨h116, h⟩ := h
  refine r_new' cls1 dX11_init_73 cl_RX11_54 ins1 ini1 dfy1 dfv1 h115 h116 ?_
  replace h := h _ rfl
  generalize upA H114 (K106).length (dflt 1) = H117 at h ⊢
  have k119 := kn_app (l := [(1, 8)]) k107
  have k120 := kn_app (l := [(1, 8)]) k108
  have k121 := kn_app (l := [(1, 8)]) k109
  have k122 := kn_app (l := [(1, 8)]) k110
  have k123 := kn_app (l := [(1, 8)]) k111
  have k124 := kn_app (l := [(1, 8)]) k112
  have k125 := kn_app (l := [(1, 8)]) k113
  have k126 := kn_new (K := K106) (q := (1, 8))
  replace h := h _ rfl
  generalize (K106 ++ [(1, 8)]) = K118 at h k119 k120 k121 k122 k123 k124 k125 k126 ⊢
  refine r_dup dX11_init_76 (show (2 : Nat) ≠ 1 by decide) ?_
  obtain ⟨h129, h⟩ := h
  obtain ⟨h130, h⟩ := h
  refine r_invIN' (M := mX11_init) (As := []) (mc := 9) (ms := 94) rfl h ok_X1_init rfl im_X1_init mn_RX11_56 dX11_init_77 rfl (Int.natCast_nonneg _) (Nat.le_of_ble_eq_true rfl) rfl h129 h130 ?_
  rintro r K1 H127 ⟨rfl, l131, rfl, h⟩ -
  have k133 := kn_app (l := l131) k119
  have k134 := kn_app (l := l131) k120
  have k135 := kn_app (l := l131) k121
  have k136 := kn_app (l := l131) k122
  have k137 := kn_app (l := l131) k123
  have k138 := kn_app (l := l131) k124
  have k139 := kn_app (l := l131) k125
  have k140 := kn_app (l := l131) k126
  replace h := h _ rfl
  generalize (K118 ++ l131) = K132 at h k133 k134 k135 k136 k137 k138 k139 k140 ⊢
  show Fr mX11_init (d + 1) (((((((((((((fc - 1) - 12) - 1) - 1) - 2) - 1) - 2) - 1) - 47) - 1) - 3) - 1) - 9) (((((((((((((fs - 3) - 150) - 4) - 3) - 16) - 3) - 8) - 12) - 174) - 6) - 28) - 8) - 94) none 80 [(0, (2, v0))] [(2, (((K106).length : Nat) : Int)), (2, v0)] _ H127 _
  refine r_putfF cls11 7 dX11_init_80 (by decide) rfl rfl rfl fl_RX11_57 rfl h1 k133 (fun o => ⟨(by omega), o⟩) ?_
  replace h := h _ rfl
  generalize upA H127 (v0 : Int).toNat (up1 (H127 (v0 : Int).toNat) 7 (((K106).length : Nat) : Int)) = H141 at h ⊢
  refine r_iconst dX11_init_83 (by decide) (by decide) ?_
  refine r_istore_n dX11_init_84 rfl (by decide) rfl ?_
  refine Fr.fewer [1, 0] rfl ?_
  exact h
set_option maxHeartbeats 4000000 in
set_option maxRecDepth 20000 in
theorem bX11_init_85 {d fc fs : Nat} {K : Shp} {H : Mem} {Q : Option AV → Shp → Mem → Prop} {v0 v1 : Int} (h : ((¬ (v1 : Int) < 4 → Q none K H) ∧ ((v1 : Int) < 4 → ((0 : Int) ≤ v0) ∧ (K[(v0 : Int).toNat]? = some (11, 8)) ∧ (1 ≤ fc) ∧ (18 ≤ fs) ∧ ∀ H6 : Mem, H6 = upA H (K).length (dflt 4) → ∀ K7 : Shp, K7 = (K ++ [(4, 18)]) → (9 ≤ (fc - 1)) ∧ (96 ≤ (fs - 18)) ∧ Cn mX4_init d 9 96 [(2, (((K).length : Nat) : Int))] K7 H6 (fun l14 H10 => ∀ K15 : Shp, K15 = (K7 ++ l14) → ((0 : Int) ≤ (H (v0 : Int).toNat 2)) ∧ ∃ n19 : Nat, (K15[((H (v0 : Int).toNat 2) : Int).toNat]? = some (23, n19)) ∧ ((0 : Int) ≤ v1) ∧ ((v1 : Int) < n19) ∧ ∀ H23 : Mem, H23 = upA H10 ((H (v0 : Int).toNat 2) : Int).toNat (up1 (H10 ((H (v0 : Int).toNat 2) : Int).toNat) (v1 : Int).toNat (((K).length : Nat) : Int)) → (inI (v1 + 1)) ∧ FX11_init_85 d ((fc - 1) - 9) ((fs - 18) - 96) K15 H23 Q (v0) ((v1 + 1)))))) : FX11_init_85 d fc fs K H Q (v0) (v1) := by
  unfold FX11_init_85
  refine r_iload_n 1 dX11_init_85 rfl rfl ?_
  refine r_iconst dX11_init_86 (by decide) (by decide) ?_
  refine r_icmp_ge (tgt := 109) dX11_init_87 (by decide) (fun c1 => ?_) (fun c1 => ?_)
  · replace h := h.1 c1
    exact r_vret dX11_init_109 rfl h
  · replace h := h.2 c1
    refine r_aload_n 0 dX11_init_90 rfl rfl ?_
    obtain ⟨h2, h⟩ := h
    obtain ⟨h3, h⟩ := h
    refine r_getf cls11 2 dX11_init_91 (by decide) fl_RX11_22 rfl h2 h3 ?_
    refine r_iload_n 1 dX11_init_94 rfl rfl ?_
    obtain ⟨h4, h⟩ := h
    obtain ⟨h5, h⟩ := h
    refine r_new' cls4 dX11_init_95 cl_RX11_20 ins4 ini4 dfy4 dfv4 h4 h5 ?_
    replace h := h _ rfl
    generalize upA H (K).length (dflt 4) = H6 at h ⊢
    have k8 := kn_app (l := [(4, 18)]) h3
    have k9 := kn_new (K := K) (q := (4, 18))
    replace h := h _ rfl
    generalize (K ++ [(4, 18)]) = K7 at h k8 k9 ⊢
    refine r_dup dX11_init_98 (show (2 : Nat) ≠ 1 by decide) ?_
    obtain ⟨h12, h⟩ := h
    obtain ⟨h13, h⟩ := h
    refine r_invI' (M := mX11_init) (As := []) (mc := 9) (ms := 96) rfl h ok_X4_init rfl im_X4_init ml_RX11_61 dX11_init_99 rfl (Int.natCast_nonneg _) (Nat.le_of_ble_eq_true rfl) rfl h12 h13 ?_
    rintro r K1 H10 ⟨rfl, l14, rfl, h⟩ -
    have k16 := kn_app (l := l14) k8
    have k17 := kn_app (l := l14) k9
    replace h := h _ rfl
    generalize (K7 ++ l14) = K15 at h k16 k17 ⊢
    show Fr mX11_init (d + 1) ((fc - 1) - 9) ((fs - 18) - 96) none 102 [(0, (2, v0)), (1, (0, v1))] [(2, (((K).length : Nat) : Int)), (0, v1), (2, (H (v0 : Int).toNat 2))] _ H10 _
    obtain ⟨h18, h⟩ := h
    obtain ⟨n19, h⟩ := h
    obtain ⟨h20, h⟩ := h
    obtain ⟨h21, h⟩ := h
    obtain ⟨h22, h⟩ := h
    refine r_aast 23 n19 (by decide) dX11_init_102 h18 h20 h21 h22 (Int.natCast_nonneg _) k17 ?_
    replace h := h _ rfl
    generalize upA H10 ((H (v0 : Int).toNat 2) : Int).toNat (up1 (H10 ((H (v0 : Int).toNat 2) : Int).toNat) (v1 : Int).toNat (((K).length : Nat) : Int)) = H23 at h ⊢
    obtain ⟨h24, h⟩ := h
    refine r_iinc 1 dX11_init_103 (by decide) rfl h24 rfl ?_
    refine r_goto (tgt := 85) dX11_init_106 (by decide) ?_
    refine Fr.fewer [1, 0] rfl ?_
    exact h
set_option maxHeartbeats 4000000 in
set_option maxRecDepth 20000 in
theorem eX11_init {d : Nat} {K : Shp} {H : Mem} {q : Shp → Mem → Prop} {v0 : Int} (h : Rng K H → FX11_init_0 d 122 965 K H (qn K q) v0) : Cn mX11_init (d + 1) 122 965 [(2, v0)] K H q := Call.of rfl (Nat.le_of_ble_eq_true rfl) (fun o r => h  r)
