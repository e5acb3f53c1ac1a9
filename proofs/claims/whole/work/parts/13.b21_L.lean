/-! printed by gen/emit.py: what a walk from each cut point asks -/
def FL_law_0 (d fc fs : Nat) (K : Shp) (H : Mem) (Q : Option AV → Shp → Mem → Prop) (L : Nat) (xs : Nat → Int)  : Prop := Fr mL_law (d + 1) fc fs (some (L, xs)) 0 [(0, (2, (-2)))] [] K H Q
def FL_law_18 (d fc fs : Nat) (K : Shp) (H : Mem) (Q : Option AV → Shp → Mem → Prop) (L : Nat) (xs : Nat → Int) (v1 : Int) (v2 : Int) (v3 : Int) : Prop := Fr mL_law (d + 1) fc fs (some (L, xs)) 18 [(0, (2, (-2))), (1, (2, v1)), (2, (2, v2)), (3, (0, v3))] [] K H Q
set_option maxHeartbeats 4000000 in
set_option maxRecDepth 20000 in
theorem bL_law_0 {d fc fs : Nat} {K : Shp} {H : Mem} {Q : Option AV → Shp → Mem → Prop} {L : Nat} {xs : Nat → Int} (h : (1 ≤ fc) ∧ (8 ≤ fs) ∧ ∀ H3 : Mem, H3 = upA H (K).length (dflt 11) → ∀ K4 : Shp, K4 = (K ++ [(11, 8)]) → (122 ≤ (fc - 1)) ∧ (965 ≤ (fs - 8)) ∧ Cn mX11_init d 122 965 [(2, (((K).length : Nat) : Int))] K4 H3 (fun l10 H6 => ∀ K11 : Shp, K11 = (K4 ++ l10) → (1 ≤ ((fc - 1) - 122)) ∧ (51 ≤ ((fs - 8) - 965)) ∧ ∀ H15 : Mem, H15 = upA H6 (K11).length (dflt 12) → ∀ K16 : Shp, K16 = (K11 ++ [(12, 51)]) → (40 ≤ (((fc - 1) - 122) - 1)) ∧ (30000 ≤ (((fs - 8) - 965) - 51)) ∧ Cn mX12_init d 40 30000 [(2, (((K11).length : Nat) : Int))] K16 H15 (fun l23 H19 => ∀ K24 : Shp, K24 = (K16 ++ l23) → FL_law_18 d ((((fc - 1) - 122) - 1) - 40) ((((fs - 8) - 965) - 51) - 30000) K24 H19 Q L xs ((((K).length : Nat) : Int)) ((((K11).length : Nat) : Int)) (0)))) : FL_law_0 d fc fs K H Q L xs := by
  unfold FL_law_0
  obtain ⟨h1, h⟩ := h
  obtain ⟨h2, h⟩ := h
  refine r_new' cls11 dL_law_0 cl_RL_7 ins11 ini11 dfy11 dfv11 h1 h2 ?_
  replace h := h _ rfl
  generalize upA H (K).length (dflt 11) = H3 at h ⊢
  have k5 := kn_new (K := K) (q := (11, 8))
  replace h := h _ rfl
  generalize (K ++ [(11, 8)]) = K4 at h k5 ⊢
  refine r_dup dL_law_3 (show (2 : Nat) ≠ 1 by decide) ?_
  obtain ⟨h8, h⟩ := h
  obtain ⟨h9, h⟩ := h
  refine r_invI' (M := mL_law) (As := []) (mc := 122) (ms := 965) rfl h ok_X11_init rfl im_X11_init ml_RL_9 dL_law_4 rfl (Int.natCast_nonneg _) (Nat.le_of_ble_eq_true rfl) rfl h8 h9 ?_
  rintro r K1 H6 ⟨rfl, l10, rfl, h⟩ -
  have k12 := kn_app (l := l10) k5
  replace h := h _ rfl
  generalize (K4 ++ l10) = K11 at h k12 ⊢
  show Fr mL_law (d + 1) ((fc - 1) - 122) ((fs - 8) - 965) (some (L, xs)) 7 [(0, (2, (-2)))] [(2, (((K).length : Nat) : Int))] _ H6 _
  refine r_astore_n dL_law_7 rfl (by decide) rfl ?_
  obtain ⟨h13, h⟩ := h
  obtain ⟨h14, h⟩ := h
  refine r_new' cls12 dL_law_8 cl_RL_10 ins12 ini12 dfy12 dfv12 h13 h14 ?_
  replace h := h _ rfl
  generalize upA H6 (K11).length (dflt 12) = H15 at h ⊢
  have k17 := kn_app (l := [(12, 51)]) k12
  have k18 := kn_new (K := K11) (q := (12, 51))
  replace h := h _ rfl
  generalize (K11 ++ [(12, 51)]) = K16 at h k17 k18 ⊢
  refine r_dup dL_law_11 (show (2 : Nat) ≠ 1 by decide) ?_
  obtain ⟨h21, h⟩ := h
  obtain ⟨h22, h⟩ := h
  refine r_invI' (M := mL_law) (As := []) (mc := 40) (ms := 30000) rfl h ok_X12_init rfl im_X12_init ml_RL_12 dL_law_12 rfl (Int.natCast_nonneg _) (Nat.le_of_ble_eq_true rfl) rfl h21 h22 ?_
  rintro r K1 H19 ⟨rfl, l23, rfl, h⟩ -
  have k25 := kn_app (l := l23) k17
  have k26 := kn_app (l := l23) k18
  replace h := h _ rfl
  generalize (K16 ++ l23) = K24 at h k25 k26 ⊢
  show Fr mL_law (d + 1) ((((fc - 1) - 122) - 1) - 40) ((((fs - 8) - 965) - 51) - 30000) (some (L, xs)) 15 [(1, (2, (((K).length : Nat) : Int))), (0, (2, (-2)))] [(2, (((K11).length : Nat) : Int))] _ H19 _
  refine r_astore_n dL_law_15 rfl (by decide) rfl ?_
  refine r_iconst dL_law_16 (by decide) (by decide) ?_
  refine r_istore_n dL_law_17 rfl (by decide) rfl ?_
  refine Fr.fewer [3, 2, 1, 0] rfl ?_
  exact h
set_option maxHeartbeats 4000000 in
set_option maxRecDepth 20000 in
theorem bL_law_18 {d fc fs : Nat} {K : Shp} {H : Mem} {Q : Option AV → Shp → Mem → Prop} {L : Nat} {xs : Nat → Int} {v1 v2 v3 : Int} (h : (inI ((L : Int) - 5)) ∧ ((¬ (v3 : Int) ≤ ((L : Int) - 5) → Q (some (0, 1)) K H) ∧ ((v3 : Int) ≤ ((L : Int) - 5) → ((0 : Int) ≤ v3) ∧ ((v3 : Int) < L) ∧ ((((xs (v3 : Int).toNat) % 32) = 0 → ((0 : Int) ≤ v1) ∧ (K[(v1 : Int).toNat]? = some (11, 8)) ∧ Ci mX11_status d [(2, v1)] K H (fun x8 H7 => ((0 : Int) ≤ v2) ∧ (K[(v2 : Int).toNat]? = some (12, 51)) ∧ Ci mX12_status d [(2, v2)] K H7 (fun x12 H11 => (((x8 : Int) = x12 → (inI (v3 + 5)) ∧ FL_law_18 d fc fs K H11 Q L xs (v1) (v2) ((v3 + 5))) ∧ (¬ (x8 : Int) = x12 → Q (some (0, 0)) K H11))))) ∧ (((xs (v3 : Int).toNat) % 32) = 1 → (inI (v3 + 1)) ∧ ((0 : Int) ≤ (v3 + 1)) ∧ (((v3 + 1) : Int) < L) ∧ ((0 : Int) ≤ v1) ∧ (K[(v1 : Int).toNat]? = some (11, 8)) ∧ Ci mX11_out d [(2, v1), (0, (xs ((v3 + 1) : Int).toNat))] K H (fun x21 H20 => ((0 : Int) ≤ v2) ∧ (K[(v2 : Int).toNat]? = some (12, 51)) ∧ Ci mX12_out d [(2, v2), (0, (xs ((v3 + 1) : Int).toNat))] K H20 (fun x25 H24 => (((x21 : Int) = x25 → (inI (v3 + 5)) ∧ FL_law_18 d fc fs K H24 Q L xs (v1) (v2) ((v3 + 5))) ∧ (¬ (x21 : Int) = x25 → Q (some (0, 0)) K H24))))) ∧ (((xs (v3 : Int).toNat) % 32) = 2 → (inI (v3 + 1)) ∧ ((0 : Int) ≤ (v3 + 1)) ∧ (((v3 + 1) : Int) < L) ∧ (inI (v3 + 2)) ∧ ((0 : Int) ≤ (v3 + 2)) ∧ (((v3 + 2) : Int) < L) ∧ (inI (v3 + 3)) ∧ ((0 : Int) ≤ (v3 + 3)) ∧ (((v3 + 3) : Int) < L) ∧ ((0 : Int) ≤ v1) ∧ (K[(v1 : Int).toNat]? = some (11, 8)) ∧ Ci mX11_stone d [(2, v1), (0, (xs ((v3 + 1) : Int).toNat)), (0, (xs ((v3 + 2) : Int).toNat)), (0, (xs ((v3 + 3) : Int).toNat))] K H (fun x40 H39 => ((0 : Int) ≤ v2) ∧ (K[(v2 : Int).toNat]? = some (12, 51)) ∧ Ci mX12_stone d [(2, v2), (0, (xs ((v3 + 1) : Int).toNat)), (0, (xs ((v3 + 2) : Int).toNat)), (0, (xs ((v3 + 3) : Int).toNat))] K H39 (fun x44 H43 => (((x40 : Int) = x44 → (inI (v3 + 5)) ∧ FL_law_18 d fc fs K H43 Q L xs (v1) (v2) ((v3 + 5))) ∧ (¬ (x40 : Int) = x44 → Q (some (0, 0)) K H43))))) ∧ (((xs (v3 : Int).toNat) % 32) = 3 → (inI (v3 + 1)) ∧ ((0 : Int) ≤ (v3 + 1)) ∧ (((v3 + 1) : Int) < L) ∧ (inI (v3 + 2)) ∧ ((0 : Int) ≤ (v3 + 2)) ∧ (((v3 + 2) : Int) < L) ∧ (inI (v3 + 3)) ∧ ((0 : Int) ≤ (v3 + 3)) ∧ (((v3 + 3) : Int) < L) ∧ (inI (v3 + 4)) ∧ ((0 : Int) ≤ (v3 + 4)) ∧ (((v3 + 4) : Int) < L) ∧ ((0 : Int) ≤ v1) ∧ (K[(v1 : Int).toNat]? = some (11, 8)) ∧ Ci mX11_band d [(2, v1), (0, (xs ((v3 + 1) : Int).toNat)), (0, (xs ((v3 + 2) : Int).toNat)), (0, (xs ((v3 + 3) : Int).toNat)), (0, (xs ((v3 + 4) : Int).toNat))] K H (fun x62 H61 => ((0 : Int) ≤ v2) ∧ (K[(v2 : Int).toNat]? = some (12, 51)) ∧ Ci mX12_band d [(2, v2), (0, (xs ((v3 + 1) : Int).toNat)), (0, (xs ((v3 + 2) : Int).toNat)), (0, (xs ((v3 + 3) : Int).toNat)), (0, (xs ((v3 + 4) : Int).toNat))] K H61 (fun x66 H65 => (((x62 : Int) = x66 → (inI (v3 + 5)) ∧ FL_law_18 d fc fs K H65 Q L xs (v1) (v2) ((v3 + 5))) ∧ (¬ (x62 : Int) = x66 → Q (some (0, 0)) K H65))))) ∧ (((xs (v3 : Int).toNat) % 32) = 4 → (inI (v3 + 1)) ∧ ((0 : Int) ≤ (v3 + 1)) ∧ (((v3 + 1) : Int) < L) ∧ (inI (v3 + 2)) ∧ ((0 : Int) ≤ (v3 + 2)) ∧ (((v3 + 2) : Int) < L) ∧ (inI (v3 + 3)) ∧ ((0 : Int) ≤ (v3 + 3)) ∧ (((v3 + 3) : Int) < L) ∧ ((0 : Int) ≤ v1) ∧ (K[(v1 : Int).toNat]? = some (11, 8)) ∧ Ci mX11_rod d [(2, v1), (0, (xs ((v3 + 1) : Int).toNat)), (0, (xs ((v3 + 2) : Int).toNat)), (0, (xs ((v3 + 3) : Int).toNat))] K H (fun x81 H80 => ((0 : Int) ≤ v2) ∧ (K[(v2 : Int).toNat]? = some (12, 51)) ∧ Ci mX12_rod d [(2, v2), (0, (xs ((v3 + 1) : Int).toNat)), (0, (xs ((v3 + 2) : Int).toNat)), (0, (xs ((v3 + 3) : Int).toNat))] K H80 (fun x85 H84 => (((x81 : Int) = x85 → (inI (v3 + 5)) ∧ FL_law_18 d fc fs K H84 Q L xs (v1) (v2) ((v3 + 5))) ∧ (¬ (x81 : Int) = x85 → Q (some (0, 0)) K H84))))) ∧ (((xs (v3 : Int).toNat) % 32) = 5 → (inI (v3 + 1)) ∧ ((0 : Int) ≤ (v3 + 1)) ∧ (((v3 + 1) : Int) < L) ∧ (inI (v3 + 2)) ∧ ((0 : Int) ≤ (v3 + 2)) ∧ (((v3 + 2) : Int) < L) ∧ (inI (v3 + 3)) ∧ ((0 : Int) ≤ (v3 + 3)) ∧ (((v3 + 3) : Int) < L) ∧ ((0 : Int) ≤ v1) ∧ (K[(v1 : Int).toNat]? = some (11, 8)) ∧ Ci mX11_change d [(2, v1), (0, (xs ((v3 + 1) : Int).toNat)), (0, (xs ((v3 + 2) : Int).toNat)), (0, (xs ((v3 + 3) : Int).toNat))] K H (fun x100 H99 => ((0 : Int) ≤ v2) ∧ (K[(v2 : Int).toNat]? = some (12, 51)) ∧ Ci mX12_change d [(2, v2), (0, (xs ((v3 + 1) : Int).toNat)), (0, (xs ((v3 + 2) : Int).toNat)), (0, (xs ((v3 + 3) : Int).toNat))] K H99 (fun x104 H103 => (((x100 : Int) = x104 → (inI (v3 + 5)) ∧ FL_law_18 d fc fs K H103 Q L xs (v1) (v2) ((v3 + 5))) ∧ (¬ (x100 : Int) = x104 → Q (some (0, 0)) K H103))))) ∧ (((xs (v3 : Int).toNat) % 32) = 6 → (inI (v3 + 1)) ∧ ((0 : Int) ≤ (v3 + 1)) ∧ (((v3 + 1) : Int) < L) ∧ (inI (v3 + 2)) ∧ ((0 : Int) ≤ (v3 + 2)) ∧ (((v3 + 2) : Int) < L) ∧ ((0 : Int) ≤ v1) ∧ (K[(v1 : Int).toNat]? = some (11, 8)) ∧ Ci mX11_told d [(2, v1), (0, (xs ((v3 + 1) : Int).toNat)), (0, (xs ((v3 + 2) : Int).toNat))] K H (fun x116 H115 => ((0 : Int) ≤ v2) ∧ (K[(v2 : Int).toNat]? = some (12, 51)) ∧ Ci mX12_told d [(2, v2), (0, (xs ((v3 + 1) : Int).toNat)), (0, (xs ((v3 + 2) : Int).toNat))] K H115 (fun x120 H119 => (((x116 : Int) = x120 → (inI (v3 + 5)) ∧ FL_law_18 d fc fs K H119 Q L xs (v1) (v2) ((v3 + 5))) ∧ (¬ (x116 : Int) = x120 → Q (some (0, 0)) K H119))))) ∧ (((xs (v3 : Int).toNat) % 32) = 7 → (inI (v3 + 1)) ∧ ((0 : Int) ≤ (v3 + 1)) ∧ (((v3 + 1) : Int) < L) ∧ (inI (v3 + 2)) ∧ ((0 : Int) ≤ (v3 + 2)) ∧ (((v3 + 2) : Int) < L) ∧ ((0 : Int) ≤ v1) ∧ (K[(v1 : Int).toNat]? = some (11, 8)) ∧ Ci mX11_strength d [(2, v1), (0, (xs ((v3 + 1) : Int).toNat)), (0, (xs ((v3 + 2) : Int).toNat))] K H (fun x132 H131 => ((0 : Int) ≤ v2) ∧ (K[(v2 : Int).toNat]? = some (12, 51)) ∧ Ci mX12_strength d [(2, v2), (0, (xs ((v3 + 1) : Int).toNat)), (0, (xs ((v3 + 2) : Int).toNat))] K H131 (fun x136 H135 => (((x132 : Int) = x136 → (inI (v3 + 5)) ∧ FL_law_18 d fc fs K H135 Q L xs (v1) (v2) ((v3 + 5))) ∧ (¬ (x132 : Int) = x136 → Q (some (0, 0)) K H135))))) ∧ (((xs (v3 : Int).toNat) % 32) = 8 → (inI (v3 + 1)) ∧ ((0 : Int) ≤ (v3 + 1)) ∧ (((v3 + 1) : Int) < L) ∧ (inI (v3 + 2)) ∧ ((0 : Int) ≤ (v3 + 2)) ∧ (((v3 + 2) : Int) < L) ∧ ((0 : Int) ≤ v1) ∧ (K[(v1 : Int).toNat]? = some (11, 8)) ∧ Ci mX11_width d [(2, v1), (0, (xs ((v3 + 1) : Int).toNat)), (0, (xs ((v3 + 2) : Int).toNat))] K H (fun x148 H147 => ((0 : Int) ≤ v2) ∧ (K[(v2 : Int).toNat]? = some (12, 51)) ∧ Ci mX12_width d [(2, v2), (0, (xs ((v3 + 1) : Int).toNat)), (0, (xs ((v3 + 2) : Int).toNat))] K H147 (fun x152 H151 => (((x148 : Int) = x152 → (inI (v3 + 5)) ∧ FL_law_18 d fc fs K H151 Q L xs (v1) (v2) ((v3 + 5))) ∧ (¬ (x148 : Int) = x152 → Q (some (0, 0)) K H151))))) ∧ (((xs (v3 : Int).toNat) % 32) = 9 → (inI (v3 + 1)) ∧ ((0 : Int) ≤ (v3 + 1)) ∧ (((v3 + 1) : Int) < L) ∧ (inI (v3 + 2)) ∧ ((0 : Int) ≤ (v3 + 2)) ∧ (((v3 + 2) : Int) < L) ∧ (inI (v3 + 3)) ∧ ((0 : Int) ≤ (v3 + 3)) ∧ (((v3 + 3) : Int) < L) ∧ ((((xs ((v3 + 3) : Int).toNat) : Int) = 0 → ((0 : Int) ≤ v1) ∧ (K[(v1 : Int).toNat]? = some (11, 8)) ∧ Ci mX11_bend d [(2, v1), (0, (xs ((v3 + 1) : Int).toNat)), (0, (xs ((v3 + 2) : Int).toNat)), (0, 0)] K H (fun x168 H167 => ((((xs ((v3 + 3) : Int).toNat) : Int) = 0 → ((0 : Int) ≤ v2) ∧ (K[(v2 : Int).toNat]? = some (12, 51)) ∧ Ci mX12_bend d [(2, v2), (0, (xs ((v3 + 1) : Int).toNat)), (0, (xs ((v3 + 2) : Int).toNat)), (0, 0)] K H167 (fun x173 H172 => (((x168 : Int) = x173 → (inI (v3 + 5)) ∧ FL_law_18 d fc fs K H172 Q L xs (v1) (v2) ((v3 + 5))) ∧ (¬ (x168 : Int) = x173 → Q (some (0, 0)) K H172)))) ∧ (¬ ((xs ((v3 + 3) : Int).toNat) : Int) = 0 → ((0 : Int) ≤ v2) ∧ (K[(v2 : Int).toNat]? = some (12, 51)) ∧ Ci mX12_bend d [(2, v2), (0, (xs ((v3 + 1) : Int).toNat)), (0, (xs ((v3 + 2) : Int).toNat)), (0, 1)] K H167 (fun x179 H178 => (((x168 : Int) = x179 → (inI (v3 + 5)) ∧ FL_law_18 d fc fs K H178 Q L xs (v1) (v2) ((v3 + 5))) ∧ (¬ (x168 : Int) = x179 → Q (some (0, 0)) K H178))))))) ∧ (¬ ((xs ((v3 + 3) : Int).toNat) : Int) = 0 → ((0 : Int) ≤ v1) ∧ (K[(v1 : Int).toNat]? = some (11, 8)) ∧ Ci mX11_bend d [(2, v1), (0, (xs ((v3 + 1) : Int).toNat)), (0, (xs ((v3 + 2) : Int).toNat)), (0, 1)] K H (fun x185 H184 => ((((xs ((v3 + 3) : Int).toNat) : Int) = 0 → ((0 : Int) ≤ v2) ∧ (K[(v2 : Int).toNat]? = some (12, 51)) ∧ Ci mX12_bend d [(2, v2), (0, (xs ((v3 + 1) : Int).toNat)), (0, (xs ((v3 + 2) : Int).toNat)), (0, 0)] K H184 (fun x190 H189 => (((x185 : Int) = x190 → (inI (v3 + 5)) ∧ FL_law_18 d fc fs K H189 Q L xs (v1) (v2) ((v3 + 5))) ∧ (¬ (x185 : Int) = x190 → Q (some (0, 0)) K H189)))) ∧ (¬ ((xs ((v3 + 3) : Int).toNat) : Int) = 0 → ((0 : Int) ≤ v2) ∧ (K[(v2 : Int).toNat]? = some (12, 51)) ∧ Ci mX12_bend d [(2, v2), (0, (xs ((v3 + 1) : Int).toNat)), (0, (xs ((v3 + 2) : Int).toNat)), (0, 1)] K H184 (fun x196 H195 => (((x185 : Int) = x196 → (inI (v3 + 5)) ∧ FL_law_18 d fc fs K H195 Q L xs (v1) (v2) ((v3 + 5))) ∧ (¬ (x185 : Int) = x196 → Q (some (0, 0)) K H195))))))))) ∧ (((xs (v3 : Int).toNat) % 32) = 10 → (inI (v3 + 1)) ∧ ((0 : Int) ≤ (v3 + 1)) ∧ (((v3 + 1) : Int) < L) ∧ (inI (v3 + 2)) ∧ ((0 : Int) ≤ (v3 + 2)) ∧ (((v3 + 2) : Int) < L) ∧ (inI (v3 + 3)) ∧ ((0 : Int) ≤ (v3 + 3)) ∧ (((v3 + 3) : Int) < L) ∧ ((((xs ((v3 + 3) : Int).toNat) : Int) = 0 → ((0 : Int) ≤ v1) ∧ (K[(v1 : Int).toNat]? = some (11, 8)) ∧ Ci mX11_cut d [(2, v1), (0, (xs ((v3 + 1) : Int).toNat)), (0, (xs ((v3 + 2) : Int).toNat)), (0, 0)] K H (fun x212 H211 => ((((xs ((v3 + 3) : Int).toNat) : Int) = 0 → ((0 : Int) ≤ v2) ∧ (K[(v2 : Int).toNat]? = some (12, 51)) ∧ Ci mX12_cut d [(2, v2), (0, (xs ((v3 + 1) : Int).toNat)), (0, (xs ((v3 + 2) : Int).toNat)), (0, 0)] K H211 (fun x217 H216 => (((x212 : Int) = x217 → (inI (v3 + 5)) ∧ FL_law_18 d fc fs K H216 Q L xs (v1) (v2) ((v3 + 5))) ∧ (¬ (x212 : Int) = x217 → Q (some (0, 0)) K H216)))) ∧ (¬ ((xs ((v3 + 3) : Int).toNat) : Int) = 0 → ((0 : Int) ≤ v2) ∧ (K[(v2 : Int).toNat]? = some (12, 51)) ∧ Ci mX12_cut d [(2, v2), (0, (xs ((v3 + 1) : Int).toNat)), (0, (xs ((v3 + 2) : Int).toNat)), (0, 1)] K H211 (fun x223 H222 => (((x212 : Int) = x223 → (inI (v3 + 5)) ∧ FL_law_18 d fc fs K H222 Q L xs (v1) (v2) ((v3 + 5))) ∧ (¬ (x212 : Int) = x223 → Q (some (0, 0)) K H222))))))) ∧ (¬ ((xs ((v3 + 3) : Int).toNat) : Int) = 0 → ((0 : Int) ≤ v1) ∧ (K[(v1 : Int).toNat]? = some (11, 8)) ∧ Ci mX11_cut d [(2, v1), (0, (xs ((v3 + 1) : Int).toNat)), (0, (xs ((v3 + 2) : Int).toNat)), (0, 1)] K H (fun x229 H228 => ((((xs ((v3 + 3) : Int).toNat) : Int) = 0 → ((0 : Int) ≤ v2) ∧ (K[(v2 : Int).toNat]? = some (12, 51)) ∧ Ci mX12_cut d [(2, v2), (0, (xs ((v3 + 1) : Int).toNat)), (0, (xs ((v3 + 2) : Int).toNat)), (0, 0)] K H228 (fun x234 H233 => (((x229 : Int) = x234 → (inI (v3 + 5)) ∧ FL_law_18 d fc fs K H233 Q L xs (v1) (v2) ((v3 + 5))) ∧ (¬ (x229 : Int) = x234 → Q (some (0, 0)) K H233)))) ∧ (¬ ((xs ((v3 + 3) : Int).toNat) : Int) = 0 → ((0 : Int) ≤ v2) ∧ (K[(v2 : Int).toNat]? = some (12, 51)) ∧ Ci mX12_cut d [(2, v2), (0, (xs ((v3 + 1) : Int).toNat)), (0, (xs ((v3 + 2) : Int).toNat)), (0, 1)] K H228 (fun x240 H239 => (((x229 : Int) = x240 → (inI (v3 + 5)) ∧ FL_law_18 d fc fs K H239 Q L xs (v1) (v2) ((v3 + 5))) ∧ (¬ (x229 : Int) = x240 → Q (some (0, 0)) K H239))))))))) ∧ (((xs (v3 : Int).toNat) % 32) = 11 → (inI (v3 + 1)) ∧ ((0 : Int) ≤ (v3 + 1)) ∧ (((v3 + 1) : Int) < L) ∧ (inI (v3 + 2)) ∧ ((0 : Int) ≤ (v3 + 2)) ∧ (((v3 + 2) : Int) < L) ∧ (inI (v3 + 3)) ∧ ((0 : Int) ≤ (v3 + 3)) ∧ (((v3 + 3) : Int) < L) ∧ ((0 : Int) ≤ v1) ∧ (K[(v1 : Int).toNat]? = some (11, 8)) ∧ Ci mX11_borne d [(2, v1), (0, (xs ((v3 + 1) : Int).toNat)), (0, (xs ((v3 + 2) : Int).toNat)), (0, (xs ((v3 + 3) : Int).toNat))] K H (fun x255 H254 => ((0 : Int) ≤ v2) ∧ (K[(v2 : Int).toNat]? = some (12, 51)) ∧ Ci mX12_borne d [(2, v2), (0, (xs ((v3 + 1) : Int).toNat)), (0, (xs ((v3 + 2) : Int).toNat)), (0, (xs ((v3 + 3) : Int).toNat))] K H254 (fun x259 H258 => (((x255 : Int) = x259 → (inI (v3 + 5)) ∧ FL_law_18 d fc fs K H258 Q L xs (v1) (v2) ((v3 + 5))) ∧ (¬ (x255 : Int) = x259 → Q (some (0, 0)) K H258))))) ∧ (((xs (v3 : Int).toNat) % 32) = 12 → (inI (v3 + 1)) ∧ ((0 : Int) ≤ (v3 + 1)) ∧ (((v3 + 1) : Int) < L) ∧ (inI (v3 + 2)) ∧ ((0 : Int) ≤ (v3 + 2)) ∧ (((v3 + 2) : Int) < L) ∧ ((0 : Int) ≤ v1) ∧ (K[(v1 : Int).toNat]? = some (11, 8)) ∧ Ci mX11_pair d [(2, v1), (0, (xs ((v3 + 1) : Int).toNat)), (0, (xs ((v3 + 2) : Int).toNat))] K H (fun x271 H270 => ((0 : Int) ≤ v2) ∧ (K[(v2 : Int).toNat]? = some (12, 51)) ∧ Ci mX12_pair d [(2, v2), (0, (xs ((v3 + 1) : Int).toNat)), (0, (xs ((v3 + 2) : Int).toNat))] K H270 (fun x275 H274 => (((x271 : Int) = x275 → (inI (v3 + 5)) ∧ FL_law_18 d fc fs K H274 Q L xs (v1) (v2) ((v3 + 5))) ∧ (¬ (x271 : Int) = x275 → Q (some (0, 0)) K H274))))) ∧ (((xs (v3 : Int).toNat) % 32) = 13 → ((0 : Int) ≤ v1) ∧ (K[(v1 : Int).toNat]? = some (11, 8)) ∧ Ci mX11_clear d [(2, v1)] K H (fun x281 H280 => ((0 : Int) ≤ v2) ∧ (K[(v2 : Int).toNat]? = some (12, 51)) ∧ Ci mX12_clear d [(2, v2)] K H280 (fun x285 H284 => (((x281 : Int) = x285 → (inI (v3 + 5)) ∧ FL_law_18 d fc fs K H284 Q L xs (v1) (v2) ((v3 + 5))) ∧ (¬ (x281 : Int) = x285 → Q (some (0, 0)) K H284))))) ∧ (((xs (v3 : Int).toNat) % 32) = 14 → (inI (v3 + 1)) ∧ ((0 : Int) ≤ (v3 + 1)) ∧ (((v3 + 1) : Int) < L) ∧ ((0 : Int) ≤ v1) ∧ (K[(v1 : Int).toNat]? = some (11, 8)) ∧ Ci mX11_safe d [(2, v1), (0, (xs ((v3 + 1) : Int).toNat))] K H (fun x294 H293 => ((0 : Int) ≤ v2) ∧ (K[(v2 : Int).toNat]? = some (12, 51)) ∧ Ci mX12_safe d [(2, v2), (0, (xs ((v3 + 1) : Int).toNat))] K H293 (fun x298 H297 => (((x294 : Int) = x298 → (inI (v3 + 5)) ∧ FL_law_18 d fc fs K H297 Q L xs (v1) (v2) ((v3 + 5))) ∧ (¬ (x294 : Int) = x298 → Q (some (0, 0)) K H297))))) ∧ (((xs (v3 : Int).toNat) % 32) = 15 → (inI (v3 + 1)) ∧ ((0 : Int) ≤ (v3 + 1)) ∧ (((v3 + 1) : Int) < L) ∧ (inI (v3 + 2)) ∧ ((0 : Int) ≤ (v3 + 2)) ∧ (((v3 + 2) : Int) < L) ∧ ((0 : Int) ≤ v1) ∧ (K[(v1 : Int).toNat]? = some (11, 8)) ∧ Ci mX11_size d [(2, v1), (0, (xs ((v3 + 1) : Int).toNat)), (0, (xs ((v3 + 2) : Int).toNat))] K H (fun x310 H309 => ((0 : Int) ≤ v2) ∧ (K[(v2 : Int).toNat]? = some (12, 51)) ∧ Ci mX12_size d [(2, v2), (0, (xs ((v3 + 1) : Int).toNat)), (0, (xs ((v3 + 2) : Int).toNat))] K H309 (fun x314 H313 => (((x310 : Int) = x314 → (inI (v3 + 5)) ∧ FL_law_18 d fc fs K H313 Q L xs (v1) (v2) ((v3 + 5))) ∧ (¬ (x310 : Int) = x314 → Q (some (0, 0)) K H313))))) ∧ (((xs (v3 : Int).toNat) % 32) = 16 → (inI (v3 + 1)) ∧ ((0 : Int) ≤ (v3 + 1)) ∧ (((v3 + 1) : Int) < L) ∧ ((0 : Int) ≤ v1) ∧ (K[(v1 : Int).toNat]? = some (11, 8)) ∧ Ci mX11_best d [(2, v1), (0, (xs ((v3 + 1) : Int).toNat))] K H (fun x323 H322 => ((0 : Int) ≤ v2) ∧ (K[(v2 : Int).toNat]? = some (12, 51)) ∧ Ci mX12_best d [(2, v2), (0, (xs ((v3 + 1) : Int).toNat))] K H322 (fun x327 H326 => (((x323 : Int) = x327 → (inI (v3 + 5)) ∧ FL_law_18 d fc fs K H326 Q L xs (v1) (v2) ((v3 + 5))) ∧ (¬ (x323 : Int) = x327 → Q (some (0, 0)) K H326))))) ∧ (((xs (v3 : Int).toNat) % 32) = 17 → (inI (v3 + 1)) ∧ ((0 : Int) ≤ (v3 + 1)) ∧ (((v3 + 1) : Int) < L) ∧ (inI (v3 + 2)) ∧ ((0 : Int) ≤ (v3 + 2)) ∧ (((v3 + 2) : Int) < L) ∧ ((0 : Int) ≤ v1) ∧ (K[(v1 : Int).toNat]? = some (11, 8)) ∧ Ci mX11_chosen d [(2, v1), (0, (xs ((v3 + 1) : Int).toNat)), (0, (xs ((v3 + 2) : Int).toNat))] K H (fun x339 H338 => ((0 : Int) ≤ v2) ∧ (K[(v2 : Int).toNat]? = some (12, 51)) ∧ Ci mX12_chosen d [(2, v2), (0, (xs ((v3 + 1) : Int).toNat)), (0, (xs ((v3 + 2) : Int).toNat))] K H338 (fun x343 H342 => (((x339 : Int) = x343 → (inI (v3 + 5)) ∧ FL_law_18 d fc fs K H342 Q L xs (v1) (v2) ((v3 + 5))) ∧ (¬ (x339 : Int) = x343 → Q (some (0, 0)) K H342))))) ∧ (((xs (v3 : Int).toNat) % 32) = 18 → (inI (v3 + 1)) ∧ ((0 : Int) ≤ (v3 + 1)) ∧ (((v3 + 1) : Int) < L) ∧ ((0 : Int) ≤ v1) ∧ (K[(v1 : Int).toNat]? = some (11, 8)) ∧ Ci mX11_take d [(2, v1), (0, (xs ((v3 + 1) : Int).toNat))] K H (fun x352 H351 => ((0 : Int) ≤ v2) ∧ (K[(v2 : Int).toNat]? = some (12, 51)) ∧ Ci mX12_take d [(2, v2), (0, (xs ((v3 + 1) : Int).toNat))] K H351 (fun x356 H355 => (((x352 : Int) = x356 → (inI (v3 + 5)) ∧ FL_law_18 d fc fs K H355 Q L xs (v1) (v2) ((v3 + 5))) ∧ (¬ (x352 : Int) = x356 → Q (some (0, 0)) K H355))))) ∧ (((xs (v3 : Int).toNat) % 32) = 19 → (inI (v3 + 1)) ∧ ((0 : Int) ≤ (v3 + 1)) ∧ (((v3 + 1) : Int) < L) ∧ (inI (v3 + 2)) ∧ ((0 : Int) ≤ (v3 + 2)) ∧ (((v3 + 2) : Int) < L) ∧ ((0 : Int) ≤ v1) ∧ (K[(v1 : Int).toNat]? = some (11, 8)) ∧ Ci mX11_span d [(2, v1), (0, (xs ((v3 + 1) : Int).toNat)), (0, (xs ((v3 + 2) : Int).toNat))] K H (fun x368 H367 => ((0 : Int) ≤ v2) ∧ (K[(v2 : Int).toNat]? = some (12, 51)) ∧ Ci mX12_span d [(2, v2), (0, (xs ((v3 + 1) : Int).toNat)), (0, (xs ((v3 + 2) : Int).toNat))] K H367 (fun x372 H371 => (((x368 : Int) = x372 → (inI (v3 + 5)) ∧ FL_law_18 d fc fs K H371 Q L xs (v1) (v2) ((v3 + 5))) ∧ (¬ (x368 : Int) = x372 → Q (some (0, 0)) K H371))))) ∧ (((xs (v3 : Int).toNat) % 32) = 20 → ((0 : Int) ≤ v1) ∧ (K[(v1 : Int).toNat]? = some (11, 8)) ∧ Ci mX11_away d [(2, v1)] K H (fun x378 H377 => ((0 : Int) ≤ v2) ∧ (K[(v2 : Int).toNat]? = some (12, 51)) ∧ Ci mX12_away d [(2, v2)] K H377 (fun x382 H381 => (((x378 : Int) = x382 → (inI (v3 + 5)) ∧ FL_law_18 d fc fs K H381 Q L xs (v1) (v2) ((v3 + 5))) ∧ (¬ (x378 : Int) = x382 → Q (some (0, 0)) K H381))))) ∧ (((xs (v3 : Int).toNat) % 32) = 21 → (inI (v3 + 1)) ∧ ((0 : Int) ≤ (v3 + 1)) ∧ (((v3 + 1) : Int) < L) ∧ (inI (v3 + 2)) ∧ ((0 : Int) ≤ (v3 + 2)) ∧ (((v3 + 2) : Int) < L) ∧ ((((xs ((v3 + 2) : Int).toNat) : Int) = 0 → ((0 : Int) ≤ v1) ∧ (K[(v1 : Int).toNat]? = some (11, 8)) ∧ Ci mX11_hold d [(2, v1), (0, (xs ((v3 + 1) : Int).toNat)), (0, 0)] K H (fun x395 H394 => ((((xs ((v3 + 2) : Int).toNat) : Int) = 0 → ((0 : Int) ≤ v2) ∧ (K[(v2 : Int).toNat]? = some (12, 51)) ∧ Ci mX12_hold d [(2, v2), (0, (xs ((v3 + 1) : Int).toNat)), (0, 0)] K H394 (fun x400 H399 => (((x395 : Int) = x400 → (inI (v3 + 5)) ∧ FL_law_18 d fc fs K H399 Q L xs (v1) (v2) ((v3 + 5))) ∧ (¬ (x395 : Int) = x400 → Q (some (0, 0)) K H399)))) ∧ (¬ ((xs ((v3 + 2) : Int).toNat) : Int) = 0 → ((0 : Int) ≤ v2) ∧ (K[(v2 : Int).toNat]? = some (12, 51)) ∧ Ci mX12_hold d [(2, v2), (0, (xs ((v3 + 1) : Int).toNat)), (0, 1)] K H394 (fun x406 H405 => (((x395 : Int) = x406 → (inI (v3 + 5)) ∧ FL_law_18 d fc fs K H405 Q L xs (v1) (v2) ((v3 + 5))) ∧ (¬ (x395 : Int) = x406 → Q (some (0, 0)) K H405))))))) ∧ (¬ ((xs ((v3 + 2) : Int).toNat) : Int) = 0 → ((0 : Int) ≤ v1) ∧ (K[(v1 : Int).toNat]? = some (11, 8)) ∧ Ci mX11_hold d [(2, v1), (0, (xs ((v3 + 1) : Int).toNat)), (0, 1)] K H (fun x412 H411 => ((((xs ((v3 + 2) : Int).toNat) : Int) = 0 → ((0 : Int) ≤ v2) ∧ (K[(v2 : Int).toNat]? = some (12, 51)) ∧ Ci mX12_hold d [(2, v2), (0, (xs ((v3 + 1) : Int).toNat)), (0, 0)] K H411 (fun x417 H416 => (((x412 : Int) = x417 → (inI (v3 + 5)) ∧ FL_law_18 d fc fs K H416 Q L xs (v1) (v2) ((v3 + 5))) ∧ (¬ (x412 : Int) = x417 → Q (some (0, 0)) K H416)))) ∧ (¬ ((xs ((v3 + 2) : Int).toNat) : Int) = 0 → ((0 : Int) ≤ v2) ∧ (K[(v2 : Int).toNat]? = some (12, 51)) ∧ Ci mX12_hold d [(2, v2), (0, (xs ((v3 + 1) : Int).toNat)), (0, 1)] K H411 (fun x423 H422 => (((x412 : Int) = x423 → (inI (v3 + 5)) ∧ FL_law_18 d fc fs K H422 Q L xs (v1) (v2) ((v3 + 5))) ∧ (¬ (x412 : Int) = x423 → Q (some (0, 0)) K H422))))))))) ∧ (((xs (v3 : Int).toNat) % 32) = 22 → (inI (v3 + 1)) ∧ ((0 : Int) ≤ (v3 + 1)) ∧ (((v3 + 1) : Int) < L) ∧ (inI (v3 + 2)) ∧ ((0 : Int) ≤ (v3 + 2)) ∧ (((v3 + 2) : Int) < L) ∧ (inI (v3 + 3)) ∧ ((0 : Int) ≤ (v3 + 3)) ∧ (((v3 + 3) : Int) < L) ∧ ((0 : Int) ≤ v1) ∧ (K[(v1 : Int).toNat]? = some (11, 8)) ∧ Ci mX11_load d [(2, v1), (0, (xs ((v3 + 1) : Int).toNat)), (0, (xs ((v3 + 2) : Int).toNat)), (0, (xs ((v3 + 3) : Int).toNat))] K H (fun x438 H437 => ((0 : Int) ≤ v2) ∧ (K[(v2 : Int).toNat]? = some (12, 51)) ∧ Ci mX12_load d [(2, v2), (0, (xs ((v3 + 1) : Int).toNat)), (0, (xs ((v3 + 2) : Int).toNat)), (0, (xs ((v3 + 3) : Int).toNat))] K H437 (fun x442 H441 => (((x438 : Int) = x442 → (inI (v3 + 5)) ∧ FL_law_18 d fc fs K H441 Q L xs (v1) (v2) ((v3 + 5))) ∧ (¬ (x438 : Int) = x442 → Q (some (0, 0)) K H441))))) ∧ (((xs (v3 : Int).toNat) % 32) = 23 → (inI (v3 + 1)) ∧ ((0 : Int) ≤ (v3 + 1)) ∧ (((v3 + 1) : Int) < L) ∧ (inI (v3 + 2)) ∧ ((0 : Int) ≤ (v3 + 2)) ∧ (((v3 + 2) : Int) < L) ∧ ((0 : Int) ≤ v1) ∧ (K[(v1 : Int).toNat]? = some (11, 8)) ∧ Ci mX11_times d [(2, v1), (0, (xs ((v3 + 1) : Int).toNat)), (0, (xs ((v3 + 2) : Int).toNat))] K H (fun x454 H453 => ((0 : Int) ≤ v2) ∧ (K[(v2 : Int).toNat]? = some (12, 51)) ∧ Ci mX12_times d [(2, v2), (0, (xs ((v3 + 1) : Int).toNat)), (0, (xs ((v3 + 2) : Int).toNat))] K H453 (fun x458 H457 => (((x454 : Int) = x458 → (inI (v3 + 5)) ∧ FL_law_18 d fc fs K H457 Q L xs (v1) (v2) ((v3 + 5))) ∧ (¬ (x454 : Int) = x458 → Q (some (0, 0)) K H457))))) ∧ (((xs (v3 : Int).toNat) % 32) = 24 → ((0 : Int) ≤ v1) ∧ (K[(v1 : Int).toNat]? = some (11, 8)) ∧ Ci mX11_factor d [(2, v1)] K H (fun x464 H463 => ((0 : Int) ≤ v2) ∧ (K[(v2 : Int).toNat]? = some (12, 51)) ∧ Ci mX12_factor d [(2, v2)] K H463 (fun x468 H467 => (((x464 : Int) = x468 → (inI (v3 + 5)) ∧ FL_law_18 d fc fs K H467 Q L xs (v1) (v2) ((v3 + 5))) ∧ (¬ (x464 : Int) = x468 → Q (some (0, 0)) K H467))))) ∧ (((xs (v3 : Int).toNat) % 32) = 25 → ((0 : Int) ≤ v1) ∧ (K[(v1 : Int).toNat]? = some (11, 8)) ∧ Ci mX11_weakest d [(2, v1)] K H (fun x474 H473 => ((0 : Int) ≤ v2) ∧ (K[(v2 : Int).toNat]? = some (12, 51)) ∧ Ci mX12_weakest d [(2, v2)] K H473 (fun x478 H477 => (((x474 : Int) = x478 → (inI (v3 + 5)) ∧ FL_law_18 d fc fs K H477 Q L xs (v1) (v2) ((v3 + 5))) ∧ (¬ (x474 : Int) = x478 → Q (some (0, 0)) K H477))))) ∧ ((((xs (v3 : Int).toNat) % 32) < 0 ∨ 25 < ((xs (v3 : Int).toNat) % 32)) → (inI (v3 + 5)) ∧ FL_law_18 d fc fs K H Q L xs (v1) (v2) ((v3 + 5))))))) : FL_law_18 d fc fs K H Q L xs (v1) (v2) (v3) := by
  unfold FL_law_18
  refine r_iload_n 3 dL_law_18 rfl rfl ?_
  refine r_aload_n 0 dL_law_19 rfl rfl ?_
  refine r_slen rfl dL_law_20 ?_
  refine r_iconst dL_law_21 (by decide) (by decide) ?_
  obtain ⟨h1, h⟩ := h
  refine r_isub dL_law_22 h1 ?_
  refine r_icmp_gt (tgt := 1014) dL_law_23 (by decide) (fun c2 => ?_) (fun c2 => ?_)
  · replace h := h.1 c2
    refine r_iconst dL_law_1014 (by decide) (by decide) ?_
    exact r_zret dL_law_1015 rfl (Or.inr rfl) h
  · replace h := h.2 c2
    refine r_aload_n 0 dL_law_26 rfl rfl ?_
    refine r_iload_n 3 dL_law_27 rfl rfl ?_
    obtain ⟨h3, h⟩ := h
    obtain ⟨h4, h⟩ := h
    refine r_sald rfl dL_law_28 h3 h4 ?_
    refine r_bipush dL_law_29 (by decide) (by decide) ?_
    refine r_iand5 dL_law_31 ?_
    refine r_table (dt := 1008) dL_law_32 (by decide) (fun j hj1 hj2 hj => ?_) (fun hj => ?_)
    · rcases (show j = 0 ∨ j = 1 ∨ j = 2 ∨ j = 3 ∨ j = 4 ∨ j = 5 ∨ j = 6 ∨ j = 7 ∨ j = 8 ∨ j = 9 ∨ j = 10 ∨ j = 11 ∨ j = 12 ∨ j = 13 ∨ j = 14 ∨ j = 15 ∨ j = 16 ∨ j = 17 ∨ j = 18 ∨ j = 19 ∨ j = 20 ∨ j = 21 ∨ j = 22 ∨ j = 23 ∨ j = 24 ∨ j = 25 by omega) with rfl | rfl | rfl | rfl | rfl | rfl | rfl | rfl | rfl | rfl | rfl | rfl | rfl | rfl | rfl | rfl | rfl | rfl | rfl | rfl | rfl | rfl | rfl | rfl | rfl | rfl
      · refine ⟨_, 152, rfl, by decide, ?_⟩
        replace h := h.1 hj
        refine r_aload_n 1 dL_law_152 rfl rfl ?_
        obtain ⟨h5, h⟩ := h
        obtain ⟨h6, h⟩ := h
        refine r_invV0 (M := mL_law) (As := []) (st := []) (X := v1) h ok_X11_status cls11 im_X11_status se_X11_status ml_RL_13 dL_law_153 rfl h5 h6 (Nat.le_of_ble_eq_true rfl) rfl ?_
        rintro r K1 H7 ⟨rfl, x8, rfl, h⟩ -
        show Fr mL_law (d + 1) fc fs (some (L, xs)) 156 [(0, (2, (-2))), (1, (2, v1)), (2, (2, v2)), (3, (0, v3))] [(0, x8)] _ H7 _
        refine r_aload_n 2 dL_law_156 rfl rfl ?_
        obtain ⟨h9, h⟩ := h
        obtain ⟨h10, h⟩ := h
        refine r_invV0 (M := mL_law) (As := []) (st := [(0, x8)]) (X := v2) h ok_X12_status cls12 im_X12_status se_X12_status ml_RL_17 dL_law_157 rfl h9 h10 (Nat.le_of_ble_eq_true rfl) rfl ?_
        rintro r K1 H11 ⟨rfl, x12, rfl, h⟩ -
        show Fr mL_law (d + 1) fc fs (some (L, xs)) 160 [(0, (2, (-2))), (1, (2, v1)), (2, (2, v2)), (3, (0, v3))] [(0, x12), (0, x8)] _ H11 _
        refine r_icmp_eq (tgt := 1008) dL_law_160 (by decide) (fun c13 => ?_) (fun c13 => ?_)
        · replace h := h.1 c13
          obtain ⟨h14, h⟩ := h
          refine r_iinc 3 dL_law_1008 (by decide) rfl h14 rfl ?_
          refine r_goto (tgt := 18) dL_law_1011 (by decide) ?_
          refine Fr.fewer [1, 2, 3, 0] rfl ?_
          exact h
        · replace h := h.2 c13
          refine r_iconst dL_law_163 (by decide) (by decide) ?_
          exact r_zret dL_law_164 rfl (Or.inl rfl) h
      · refine ⟨_, 165, rfl, by decide, ?_⟩
        replace h := h.2.1 hj
        refine r_aload_n 1 dL_law_165 rfl rfl ?_
        refine r_aload_n 0 dL_law_166 rfl rfl ?_
        refine r_iload_n 3 dL_law_167 rfl rfl ?_
        refine r_iconst dL_law_168 (by decide) (by decide) ?_
        obtain ⟨h15, h⟩ := h
        refine r_iadd dL_law_169 h15 ?_
        obtain ⟨h16, h⟩ := h
        obtain ⟨h17, h⟩ := h
        refine r_sald rfl dL_law_170 h16 h17 ?_
        obtain ⟨h18, h⟩ := h
        obtain ⟨h19, h⟩ := h
        refine r_invV0 (M := mL_law) (As := [(0, (xs ((v3 + 1) : Int).toNat))]) (st := []) (X := v1) h ok_X11_out cls11 im_X11_out se_X11_out ml_RL_18 dL_law_171 rfl h18 h19 (Nat.le_of_ble_eq_true rfl) rfl ?_
        rintro r K1 H20 ⟨rfl, x21, rfl, h⟩ -
        show Fr mL_law (d + 1) fc fs (some (L, xs)) 174 [(0, (2, (-2))), (1, (2, v1)), (2, (2, v2)), (3, (0, v3))] [(0, x21)] _ H20 _
        refine r_aload_n 2 dL_law_174 rfl rfl ?_
        refine r_aload_n 0 dL_law_175 rfl rfl ?_
        refine r_iload_n 3 dL_law_176 rfl rfl ?_
        refine r_iconst dL_law_177 (by decide) (by decide) ?_
        refine r_iadd dL_law_178 h15 ?_
        refine r_sald rfl dL_law_179 h16 h17 ?_
        obtain ⟨h22, h⟩ := h
        obtain ⟨h23, h⟩ := h
        refine r_invV0 (M := mL_law) (As := [(0, (xs ((v3 + 1) : Int).toNat))]) (st := [(0, x21)]) (X := v2) h ok_X12_out cls12 im_X12_out se_X12_out ml_RL_22 dL_law_180 rfl h22 h23 (Nat.le_of_ble_eq_true rfl) rfl ?_
        rintro r K1 H24 ⟨rfl, x25, rfl, h⟩ -
        show Fr mL_law (d + 1) fc fs (some (L, xs)) 183 [(0, (2, (-2))), (1, (2, v1)), (2, (2, v2)), (3, (0, v3))] [(0, x25), (0, x21)] _ H24 _
        refine r_icmp_eq (tgt := 1008) dL_law_183 (by decide) (fun c26 => ?_) (fun c26 => ?_)
        · replace h := h.1 c26
          obtain ⟨h27, h⟩ := h
          refine r_iinc 3 dL_law_1008 (by decide) rfl h27 rfl ?_
          refine r_goto (tgt := 18) dL_law_1011 (by decide) ?_
          refine Fr.fewer [1, 2, 3, 0] rfl ?_
          exact h
        · replace h := h.2 c26
          refine r_iconst dL_law_186 (by decide) (by decide) ?_
          exact r_zret dL_law_187 rfl (Or.inl rfl) h
      · refine ⟨_, 188, rfl, by decide, ?_⟩
        replace h := h.2.2.1 hj
        refine r_aload_n 1 dL_law_188 rfl rfl ?_
        refine r_aload_n 0 dL_law_189 rfl rfl ?_
        refine r_iload_n 3 dL_law_190 rfl rfl ?_
        refine r_iconst dL_law_191 (by decide) (by decide) ?_
        obtain ⟨h28, h⟩ := h
        refine r_iadd dL_law_192 h28 ?_
        obtain ⟨h29, h⟩ := h
        obtain ⟨h30, h⟩ := h
        refine r_sald rfl dL_law_193 h29 h30 ?_
        refine r_aload_n 0 dL_law_194 rfl rfl ?_
        refine r_iload_n 3 dL_law_195 rfl rfl ?_
        refine r_iconst dL_law_196 (by decide) (by decide) ?_
        obtain ⟨h31, h⟩ := h
        refine r_iadd dL_law_197 h31 ?_
        obtain ⟨h32, h⟩ := h
        obtain ⟨h33, h⟩ := h
        refine r_sald rfl dL_law_198 h32 h33 ?_
        refine r_aload_n 0 dL_law_199 rfl rfl ?_
        refine r_iload_n 3 dL_law_200 rfl rfl ?_
        refine r_iconst dL_law_201 (by decide) (by decide) ?_
        obtain ⟨h34, h⟩ := h
        refine r_iadd dL_law_202 h34 ?_
        obtain ⟨h35, h⟩ := h
        obtain ⟨h36, h⟩ := h
        refine r_sald rfl dL_law_203 h35 h36 ?_
        obtain ⟨h37, h⟩ := h
        obtain ⟨h38, h⟩ := h
        refine r_invV0 (M := mL_law) (As := [(0, (xs ((v3 + 1) : Int).toNat)), (0, (xs ((v3 + 2) : Int).toNat)), (0, (xs ((v3 + 3) : Int).toNat))]) (st := []) (X := v1) h ok_X11_stone cls11 im_X11_stone se_X11_stone ml_RL_23 dL_law_204 rfl h37 h38 (Nat.le_of_ble_eq_true rfl) rfl ?_
        rintro r K1 H39 ⟨rfl, x40, rfl, h⟩ -
        show Fr mL_law (d + 1) fc fs (some (L, xs)) 207 [(0, (2, (-2))), (1, (2, v1)), (2, (2, v2)), (3, (0, v3))] [(0, x40)] _ H39 _
        refine r_aload_n 2 dL_law_207 rfl rfl ?_
        refine r_aload_n 0 dL_law_208 rfl rfl ?_
        refine r_iload_n 3 dL_law_209 rfl rfl ?_
        refine r_iconst dL_law_210 (by decide) (by decide) ?_
        refine r_iadd dL_law_211 h28 ?_
        refine r_sald rfl dL_law_212 h29 h30 ?_
        refine r_aload_n 0 dL_law_213 rfl rfl ?_
        refine r_iload_n 3 dL_law_214 rfl rfl ?_
        refine r_iconst dL_law_215 (by decide) (by decide) ?_
        refine r_iadd dL_law_216 h31 ?_
        refine r_sald rfl dL_law_217 h32 h33 ?_
        refine r_aload_n 0 dL_law_218 rfl rfl ?_
        refine r_iload_n 3 dL_law_219 rfl rfl ?_
        refine r_iconst dL_law_220 (by decide) (by decide) ?_
        refine r_iadd dL_law_221 h34 ?_
        refine r_sald rfl dL_law_222 h35 h36 ?_
        obtain ⟨h41, h⟩ := h
        obtain ⟨h42, h⟩ := h
        refine r_invV0 (M := mL_law) (As := [(0, (xs ((v3 + 1) : Int).toNat)), (0, (xs ((v3 + 2) : Int).toNat)), (0, (xs ((v3 + 3) : Int).toNat))]) (st := [(0, x40)]) (X := v2) h ok_X12_stone cls12 im_X12_stone se_X12_stone ml_RL_27 dL_law_223 rfl h41 h42 (Nat.le_of_ble_eq_true rfl) rfl ?_
        rintro r K1 H43 ⟨rfl, x44, rfl, h⟩ -
        show Fr mL_law (d + 1) fc fs (some (L, xs)) 226 [(0, (2, (-2))), (1, (2, v1)), (2, (2, v2)), (3, (0, v3))] [(0, x44), (0, x40)] _ H43 _
        refine r_icmp_eq (tgt := 1008) dL_law_226 (by decide) (fun c45 => ?_) (fun c45 => ?_)
        · replace h := h.1 c45
          obtain ⟨h46, h⟩ := h
          refine r_iinc 3 dL_law_1008 (by decide) rfl h46 rfl ?_
          refine r_goto (tgt := 18) dL_law_1011 (by decide) ?_
          refine Fr.fewer [1, 2, 3, 0] rfl ?_
          exact h
        · replace h := h.2 c45
          refine r_iconst dL_law_229 (by decide) (by decide) ?_
          exact r_zret dL_law_230 rfl (Or.inl rfl) h
      · refine ⟨_, 231, rfl, by decide, ?_⟩
        replace h := h.2.2.2.1 hj
        refine r_aload_n 1 dL_law_231 rfl rfl ?_
        refine r_aload_n 0 dL_law_232 rfl rfl ?_
        refine r_iload_n 3 dL_law_233 rfl rfl ?_
        refine r_iconst dL_law_234 (by decide) (by decide) ?_
        obtain ⟨h47, h⟩ := h
        refine r_iadd dL_law_235 h47 ?_
        obtain ⟨h48, h⟩ := h
        obtain ⟨h49, h⟩ := h
        refine r_sald rfl dL_law_236 h48 h49 ?_
        refine r_aload_n 0 dL_law_237 rfl rfl ?_
        refine r_iload_n 3 dL_law_238 rfl rfl ?_
        refine r_iconst dL_law_239 (by decide) (by decide) ?_
        obtain ⟨h50, h⟩ := h
        refine r_iadd dL_law_240 h50 ?_
        obtain ⟨h51, h⟩ := h
        obtain ⟨h52, h⟩ := h
        refine r_sald rfl dL_law_241 h51 h52 ?_
        refine r_aload_n 0 dL_law_242 rfl rfl ?_
        refine r_iload_n 3 dL_law_243 rfl rfl ?_
        refine r_iconst dL_law_244 (by decide) (by decide) ?_
        obtain ⟨h53, h⟩ := h
        refine r_iadd dL_law_245 h53 ?_
        obtain ⟨h54, h⟩ := h
        obtain ⟨h55, h⟩ := h
        refine r_sald rfl dL_law_246 h54 h55 ?_
        refine r_aload_n 0 dL_law_247 rfl rfl ?_
        refine r_iload_n 3 dL_law_248 rfl rfl ?_
        refine r_iconst dL_law_249 (by decide) (by decide) ?_
        obtain ⟨h56, h⟩ := h
        refine r_iadd dL_law_250 h56 ?_
        obtain ⟨h57, h⟩ := h
        obtain ⟨h58, h⟩ := h
        refine r_sald rfl dL_law_251 h57 h58 ?_
        obtain ⟨h59, h⟩ := h
        obtain ⟨h60, h⟩ := h
        refine r_invV0 (M := mL_law) (As := [(0, (xs ((v3 + 1) : Int).toNat)), (0, (xs ((v3 + 2) : Int).toNat)), (0, (xs ((v3 + 3) : Int).toNat)), (0, (xs ((v3 + 4) : Int).toNat))]) (st := []) (X := v1) h ok_X11_band cls11 im_X11_band se_X11_band ml_RL_28 dL_law_252 rfl h59 h60 (Nat.le_of_ble_eq_true rfl) rfl ?_
        rintro r K1 H61 ⟨rfl, x62, rfl, h⟩ -
        show Fr mL_law (d + 1) fc fs (some (L, xs)) 255 [(0, (2, (-2))), (1, (2, v1)), (2, (2, v2)), (3, (0, v3))] [(0, x62)] _ H61 _
        refine r_aload_n 2 dL_law_255 rfl rfl ?_
        refine r_aload_n 0 dL_law_256 rfl rfl ?_
        refine r_iload_n 3 dL_law_257 rfl rfl ?_
        refine r_iconst dL_law_258 (by decide) (by decide) ?_
        refine r_iadd dL_law_259 h47 ?_
        refine r_sald rfl dL_law_260 h48 h49 ?_
        refine r_aload_n 0 dL_law_261 rfl rfl ?_
        refine r_iload_n 3 dL_law_262 rfl rfl ?_
        refine r_iconst dL_law_263 (by decide) (by decide) ?_
        refine r_iadd dL_law_264 h50 ?_
        refine r_sald rfl dL_law_265 h51 h52 ?_
        refine r_aload_n 0 dL_law_266 rfl rfl ?_
        refine r_iload_n 3 dL_law_267 rfl rfl ?_
        refine r_iconst dL_law_268 (by decide) (by decide) ?_
        refine r_iadd dL_law_269 h53 ?_
        refine r_sald rfl dL_law_270 h54 h55 ?_
        refine r_aload_n 0 dL_law_271 rfl rfl ?_
        refine r_iload_n 3 dL_law_272 rfl rfl ?_
        refine r_iconst dL_law_273 (by decide) (by decide) ?_
        refine r_iadd dL_law_274 h56 ?_
        refine r_sald rfl dL_law_275 h57 h58 ?_
        obtain ⟨h63, h⟩ := h
        obtain ⟨h64, h⟩ := h
        refine r_invV0 (M := mL_law) (As := [(0, (xs ((v3 + 1) : Int).toNat)), (0, (xs ((v3 + 2) : Int).toNat)), (0, (xs ((v3 + 3) : Int).toNat)), (0, (xs ((v3 + 4) : Int).toNat))]) (st := [(0, x62)]) (X := v2) h ok_X12_band cls12 im_X12_band se_X12_band ml_RL_32 dL_law_276 rfl h63 h64 (Nat.le_of_ble_eq_true rfl) rfl ?_
        rintro r K1 H65 ⟨rfl, x66, rfl, h⟩ -
        show Fr mL_law (d + 1) fc fs (some (L, xs)) 279 [(0, (2, (-2))), (1, (2, v1)), (2, (2, v2)), (3, (0, v3))] [(0, x66), (0, x62)] _ H65 _
        refine r_icmp_eq (tgt := 1008) dL_law_279 (by decide) (fun c67 => ?_) (fun c67 => ?_)
        · replace h := h.1 c67
          obtain ⟨h68, h⟩ := h
          refine r_iinc 3 dL_law_1008 (by decide) rfl h68 rfl ?_
          refine r_goto (tgt := 18) dL_law_1011 (by decide) ?_
          refine Fr.fewer [1, 2, 3, 0] rfl ?_
          exact h
        · replace h := h.2 c67
          refine r_iconst dL_law_282 (by decide) (by decide) ?_
          exact r_zret dL_law_283 rfl (Or.inl rfl) h
      · refine ⟨_, 284, rfl, by decide, ?_⟩
        replace h := h.2.2.2.2.1 hj
        refine r_aload_n 1 dL_law_284 rfl rfl ?_
        refine r_aload_n 0 dL_law_285 rfl rfl ?_
        refine r_iload_n 3 dL_law_286 rfl rfl ?_
        refine r_iconst dL_law_287 (by decide) (by decide) ?_
        obtain ⟨h69, h⟩ := h
        refine r_iadd dL_law_288 h69 ?_
        obtain ⟨h70, h⟩ := h
        obtain ⟨h71, h⟩ := h
        refine r_sald rfl dL_law_289 h70 h71 ?_
        refine r_aload_n 0 dL_law_290 rfl rfl ?_
        refine r_iload_n 3 dL_law_291 rfl rfl ?_
        refine r_iconst dL_law_292 (by decide) (by decide) ?_
        obtain ⟨h72, h⟩ := h
        refine r_iadd dL_law_293 h72 ?_
        obtain ⟨h73, h⟩ := h
        obtain ⟨h74, h⟩ := h
        refine r_sald rfl dL_law_294 h73 h74 ?_
        refine r_aload_n 0 dL_law_295 rfl rfl ?_
        refine r_iload_n 3 dL_law_296 rfl rfl ?_
        refine r_iconst dL_law_297 (by decide) (by decide) ?_
        obtain ⟨h75, h⟩ := h
        refine r_iadd dL_law_298 h75 ?_
        obtain ⟨h76, h⟩ := h
        obtain ⟨h77, h⟩ := h
        refine r_sald rfl dL_law_299 h76 h77 ?_
        obtain ⟨h78, h⟩ := h
        obtain ⟨h79, h⟩ := h
        refine r_invV0 (M := mL_law) (As := [(0, (xs ((v3 + 1) : Int).toNat)), (0, (xs ((v3 + 2) : Int).toNat)), (0, (xs ((v3 + 3) : Int).toNat))]) (st := []) (X := v1) h ok_X11_rod cls11 im_X11_rod se_X11_rod ml_RL_33 dL_law_300 rfl h78 h79 (Nat.le_of_ble_eq_true rfl) rfl ?_
        rintro r K1 H80 ⟨rfl, x81, rfl, h⟩ -
        show Fr mL_law (d + 1) fc fs (some (L, xs)) 303 [(0, (2, (-2))), (1, (2, v1)), (2, (2, v2)), (3, (0, v3))] [(0, x81)] _ H80 _
        refine r_aload_n 2 dL_law_303 rfl rfl ?_
        refine r_aload_n 0 dL_law_304 rfl rfl ?_
        refine r_iload_n 3 dL_law_305 rfl rfl ?_
        refine r_iconst dL_law_306 (by decide) (by decide) ?_
        refine r_iadd dL_law_307 h69 ?_
        refine r_sald rfl dL_law_308 h70 h71 ?_
        refine r_aload_n 0 dL_law_309 rfl rfl ?_
        refine r_iload_n 3 dL_law_310 rfl rfl ?_
        refine r_iconst dL_law_311 (by decide) (by decide) ?_
        refine r_iadd dL_law_312 h72 ?_
        refine r_sald rfl dL_law_313 h73 h74 ?_
        refine r_aload_n 0 dL_law_314 rfl rfl ?_
        refine r_iload_n 3 dL_law_315 rfl rfl ?_
        refine r_iconst dL_law_316 (by decide) (by decide) ?_
        refine r_iadd dL_law_317 h75 ?_
        refine r_sald rfl dL_law_318 h76 h77 ?_
        obtain ⟨h82, h⟩ := h
        obtain ⟨h83, h⟩ := h
        refine r_invV0 (M := mL_law) (As := [(0, (xs ((v3 + 1) : Int).toNat)), (0, (xs ((v3 + 2) : Int).toNat)), (0, (xs ((v3 + 3) : Int).toNat))]) (st := [(0, x81)]) (X := v2) h ok_X12_rod cls12 im_X12_rod se_X12_rod ml_RL_37 dL_law_319 rfl h82 h83 (Nat.le_of_ble_eq_true rfl) rfl ?_
        rintro r K1 H84 ⟨rfl, x85, rfl, h⟩ -
        show Fr mL_law (d + 1) fc fs (some (L, xs)) 322 [(0, (2, (-2))), (1, (2, v1)), (2, (2, v2)), (3, (0, v3))] [(0, x85), (0, x81)] _ H84 _
        refine r_icmp_eq (tgt := 1008) dL_law_322 (by decide) (fun c86 => ?_) (fun c86 => ?_)
        · replace h := h.1 c86
          obtain ⟨h87, h⟩ := h
          refine r_iinc 3 dL_law_1008 (by decide) rfl h87 rfl ?_
          refine r_goto (tgt := 18) dL_law_1011 (by decide) ?_
          refine Fr.fewer [1, 2, 3, 0] rfl ?_
          exact h
        · replace h := h.2 c86
          refine r_iconst dL_law_325 (by decide) (by decide) ?_
          exact r_zret dL_law_326 rfl (Or.inl rfl) h
      · refine ⟨_, 327, rfl, by decide, ?_⟩
        replace h := h.2.2.2.2.2.1 hj
        refine r_aload_n 1 dL_law_327 rfl rfl ?_
        refine r_aload_n 0 dL_law_328 rfl rfl ?_
        refine r_iload_n 3 dL_law_329 rfl rfl ?_
        refine r_iconst dL_law_330 (by decide) (by decide) ?_
        obtain ⟨h88, h⟩ := h
        refine r_iadd dL_law_331 h88 ?_
        obtain ⟨h89, h⟩ := h
        obtain ⟨h90, h⟩ := h
        refine r_sald rfl dL_law_332 h89 h90 ?_
        refine r_aload_n 0 dL_law_333 rfl rfl ?_
        refine r_iload_n 3 dL_law_334 rfl rfl ?_
        refine r_iconst dL_law_335 (by decide) (by decide) ?_
        obtain ⟨h91, h⟩ := h
        refine r_iadd dL_law_336 h91 ?_
        obtain ⟨h92, h⟩ := h
        obtain ⟨h93, h⟩ := h
        refine r_sald rfl dL_law_337 h92 h93 ?_
        refine r_aload_n 0 dL_law_338 rfl rfl ?_
        refine r_iload_n 3 dL_law_339 rfl rfl ?_
        refine r_iconst dL_law_340 (by decide) (by decide) ?_
        obtain ⟨h94, h⟩ := h
        refine r_iadd dL_law_341 h94 ?_
        obtain ⟨h95, h⟩ := h
        obtain ⟨h96, h⟩ := h
        refine r_sald rfl dL_law_342 h95 h96 ?_
        obtain ⟨h97, h⟩ := h
        obtain ⟨h98, h⟩ := h
        refine r_invV0 (M := mL_law) (As := [(0, (xs ((v3 + 1) : Int).toNat)), (0, (xs ((v3 + 2) : Int).toNat)), (0, (xs ((v3 + 3) : Int).toNat))]) (st := []) (X := v1) h ok_X11_change cls11 im_X11_change se_X11_change ml_RL_38 dL_law_343 rfl h97 h98 (Nat.le_of_ble_eq_true rfl) rfl ?_
        rintro r K1 H99 ⟨rfl, x100, rfl, h⟩ -
        show Fr mL_law (d + 1) fc fs (some (L, xs)) 346 [(0, (2, (-2))), (1, (2, v1)), (2, (2, v2)), (3, (0, v3))] [(0, x100)] _ H99 _
        refine r_aload_n 2 dL_law_346 rfl rfl ?_
        refine r_aload_n 0 dL_law_347 rfl rfl ?_
        refine r_iload_n 3 dL_law_348 rfl rfl ?_
        refine r_iconst dL_law_349 (by decide) (by decide) ?_
        refine r_iadd dL_law_350 h88 ?_
        refine r_sald rfl dL_law_351 h89 h90 ?_
        refine r_aload_n 0 dL_law_352 rfl rfl ?_
        refine r_iload_n 3 dL_law_353 rfl rfl ?_
        refine r_iconst dL_law_354 (by decide) (by decide) ?_
        refine r_iadd dL_law_355 h91 ?_
        refine r_sald rfl dL_law_356 h92 h93 ?_
        refine r_aload_n 0 dL_law_357 rfl rfl ?_
        refine r_iload_n 3 dL_law_358 rfl rfl ?_
        refine r_iconst dL_law_359 (by decide) (by decide) ?_
        refine r_iadd dL_law_360 h94 ?_
        refine r_sald rfl dL_law_361 h95 h96 ?_
        obtain ⟨h101, h⟩ := h
        obtain ⟨h102, h⟩ := h
        refine r_invV0 (M := mL_law) (As := [(0, (xs ((v3 + 1) : Int).toNat)), (0, (xs ((v3 + 2) : Int).toNat)), (0, (xs ((v3 + 3) : Int).toNat))]) (st := [(0, x100)]) (X := v2) h ok_X12_change cls12 im_X12_change se_X12_change ml_RL_41 dL_law_362 rfl h101 h102 (Nat.le_of_ble_eq_true rfl) rfl ?_
        rintro r K1 H103 ⟨rfl, x104, rfl, h⟩ -
        show Fr mL_law (d + 1) fc fs (some (L, xs)) 365 [(0, (2, (-2))), (1, (2, v1)), (2, (2, v2)), (3, (0, v3))] [(0, x104), (0, x100)] _ H103 _
        refine r_icmp_eq (tgt := 1008) dL_law_365 (by decide) (fun c105 => ?_) (fun c105 => ?_)
        · replace h := h.1 c105
          obtain ⟨h106, h⟩ := h
          refine r_iinc 3 dL_law_1008 (by decide) rfl h106 rfl ?_
          refine r_goto (tgt := 18) dL_law_1011 (by decide) ?_
          refine Fr.fewer [1, 2, 3, 0] rfl ?_
          exact h
        · replace h := h.2 c105
          refine r_iconst dL_law_368 (by decide) (by decide) ?_
          exact r_zret dL_law_369 rfl (Or.inl rfl) h
      · refine ⟨_, 370, rfl, by decide, ?_⟩
        replace h := h.2.2.2.2.2.2.1 hj
        refine r_aload_n 1 dL_law_370 rfl rfl ?_
        refine r_aload_n 0 dL_law_371 rfl rfl ?_
        refine r_iload_n 3 dL_law_372 rfl rfl ?_
        refine r_iconst dL_law_373 (by decide) (by decide) ?_
        obtain ⟨h107, h⟩ := h
        refine r_iadd dL_law_374 h107 ?_
        obtain ⟨h108, h⟩ := h
        obtain ⟨h109, h⟩ := h
        refine r_sald rfl dL_law_375 h108 h109 ?_
        refine r_aload_n 0 dL_law_376 rfl rfl ?_
        refine r_iload_n 3 dL_law_377 rfl rfl ?_
        refine r_iconst dL_law_378 (by decide) (by decide) ?_
        obtain ⟨h110, h⟩ := h
        refine r_iadd dL_law_379 h110 ?_
        obtain ⟨h111, h⟩ := h
        obtain ⟨h112, h⟩ := h
        refine r_sald rfl dL_law_380 h111 h112 ?_
        obtain ⟨h113, h⟩ := h
        obtain ⟨h114, h⟩ := h
        refine r_invV0 (M := mL_law) (As := [(0, (xs ((v3 + 1) : Int).toNat)), (0, (xs ((v3 + 2) : Int).toNat))]) (st := []) (X := v1) h ok_X11_told cls11 im_X11_told se_X11_told ml_RL_42 dL_law_381 rfl h113 h114 (Nat.le_of_ble_eq_true rfl) rfl ?_
        rintro r K1 H115 ⟨rfl, x116, rfl, h⟩ -
        show Fr mL_law (d + 1) fc fs (some (L, xs)) 384 [(0, (2, (-2))), (1, (2, v1)), (2, (2, v2)), (3, (0, v3))] [(0, x116)] _ H115 _
        refine r_aload_n 2 dL_law_384 rfl rfl ?_
        refine r_aload_n 0 dL_law_385 rfl rfl ?_
        refine r_iload_n 3 dL_law_386 rfl rfl ?_
        refine r_iconst dL_law_387 (by decide) (by decide) ?_
        refine r_iadd dL_law_388 h107 ?_
        refine r_sald rfl dL_law_389 h108 h109 ?_
        refine r_aload_n 0 dL_law_390 rfl rfl ?_
        refine r_iload_n 3 dL_law_391 rfl rfl ?_
        refine r_iconst dL_law_392 (by decide) (by decide) ?_
        refine r_iadd dL_law_393 h110 ?_
        refine r_sald rfl dL_law_394 h111 h112 ?_
        obtain ⟨h117, h⟩ := h
        obtain ⟨h118, h⟩ := h
        refine r_invV0 (M := mL_law) (As := [(0, (xs ((v3 + 1) : Int).toNat)), (0, (xs ((v3 + 2) : Int).toNat))]) (st := [(0, x116)]) (X := v2) h ok_X12_told cls12 im_X12_told se_X12_told ml_RL_46 dL_law_395 rfl h117 h118 (Nat.le_of_ble_eq_true rfl) rfl ?_
        rintro r K1 H119 ⟨rfl, x120, rfl, h⟩ -
        show Fr mL_law (d + 1) fc fs (some (L, xs)) 398 [(0, (2, (-2))), (1, (2, v1)), (2, (2, v2)), (3, (0, v3))] [(0, x120), (0, x116)] _ H119 _
        refine r_icmp_eq (tgt := 1008) dL_law_398 (by decide) (fun c121 => ?_) (fun c121 => ?_)
        · replace h := h.1 c121
          obtain ⟨h122, h⟩ := h
          refine r_iinc 3 dL_law_1008 (by decide) rfl h122 rfl ?_
          refine r_goto (tgt := 18) dL_law_1011 (by decide) ?_
          refine Fr.fewer [1, 2, 3, 0] rfl ?_
          exact h
        · replace h := h.2 c121
          refine r_iconst dL_law_401 (by decide) (by decide) ?_
          exact r_zret dL_law_402 rfl (Or.inl rfl) h
      · refine ⟨_, 403, rfl, by decide, ?_⟩
        replace h := h.2.2.2.2.2.2.2.1 hj
        refine r_aload_n 1 dL_law_403 rfl rfl ?_
        refine r_aload_n 0 dL_law_404 rfl rfl ?_
        refine r_iload_n 3 dL_law_405 rfl rfl ?_
        refine r_iconst dL_law_406 (by decide) (by decide) ?_
        obtain ⟨h123, h⟩ := h
        refine r_iadd dL_law_407 h123 ?_
        obtain ⟨h124, h⟩ := h
        obtain ⟨h125, h⟩ := h
        refine r_sald rfl dL_law_408 h124 h125 ?_
        refine r_aload_n 0 dL_law_409 rfl rfl ?_
        refine r_iload_n 3 dL_law_410 rfl rfl ?_
        refine r_iconst dL_law_411 (by decide) (by decide) ?_
        obtain ⟨h126, h⟩ := h
        refine r_iadd dL_law_412 h126 ?_
        obtain ⟨h127, h⟩ := h
        obtain ⟨h128, h⟩ := h
        refine r_sald rfl dL_law_413 h127 h128 ?_
        obtain ⟨h129, h⟩ := h
        obtain ⟨h130, h⟩ := h
        refine r_invV0 (M := mL_law) (As := [(0, (xs ((v3 + 1) : Int).toNat)), (0, (xs ((v3 + 2) : Int).toNat))]) (st := []) (X := v1) h ok_X11_strength cls11 im_X11_strength se_X11_strength ml_RL_47 dL_law_414 rfl h129 h130 (Nat.le_of_ble_eq_true rfl) rfl ?_
        rintro r K1 H131 ⟨rfl, x132, rfl, h⟩ -
        show Fr mL_law (d + 1) fc fs (some (L, xs)) 417 [(0, (2, (-2))), (1, (2, v1)), (2, (2, v2)), (3, (0, v3))] [(0, x132)] _ H131 _
        refine r_aload_n 2 dL_law_417 rfl rfl ?_
        refine r_aload_n 0 dL_law_418 rfl rfl ?_
        refine r_iload_n 3 dL_law_419 rfl rfl ?_
        refine r_iconst dL_law_420 (by decide) (by decide) ?_
        refine r_iadd dL_law_421 h123 ?_
        refine r_sald rfl dL_law_422 h124 h125 ?_
        refine r_aload_n 0 dL_law_423 rfl rfl ?_
        refine r_iload_n 3 dL_law_424 rfl rfl ?_
        refine r_iconst dL_law_425 (by decide) (by decide) ?_
        refine r_iadd dL_law_426 h126 ?_
        refine r_sald rfl dL_law_427 h127 h128 ?_
        obtain ⟨h133, h⟩ := h
        obtain ⟨h134, h⟩ := h
        refine r_invV0 (M := mL_law) (As := [(0, (xs ((v3 + 1) : Int).toNat)), (0, (xs ((v3 + 2) : Int).toNat))]) (st := [(0, x132)]) (X := v2) h ok_X12_strength cls12 im_X12_strength se_X12_strength ml_RL_50 dL_law_428 rfl h133 h134 (Nat.le_of_ble_eq_true rfl) rfl ?_
        rintro r K1 H135 ⟨rfl, x136, rfl, h⟩ -
        show Fr mL_law (d + 1) fc fs (some (L, xs)) 431 [(0, (2, (-2))), (1, (2, v1)), (2, (2, v2)), (3, (0, v3))] [(0, x136), (0, x132)] _ H135 _
        refine r_icmp_eq (tgt := 1008) dL_law_431 (by decide) (fun c137 => ?_) (fun c137 => ?_)
        · replace h := h.1 c137
          obtain ⟨h138, h⟩ := h
          refine r_iinc 3 dL_law_1008 (by decide) rfl h138 rfl ?_
          refine r_goto (tgt := 18) dL_law_1011 (by decide) ?_
          refine Fr.fewer [1, 2, 3, 0] rfl ?_
          exact h
        · replace h := h.2 c137
          refine r_iconst dL_law_434 (by decide) (by decide) ?_
          exact r_zret dL_law_435 rfl (Or.inl rfl) h
      · refine ⟨_, 436, rfl, by decide, ?_⟩
        replace h := h.2.2.2.2.2.2.2.2.1 hj
        refine r_aload_n 1 dL_law_436 rfl rfl ?_
        refine r_aload_n 0 dL_law_437 rfl rfl ?_
        refine r_iload_n 3 dL_law_438 rfl rfl ?_
        refine r_iconst dL_law_439 (by decide) (by decide) ?_
        obtain ⟨h139, h⟩ := h
        refine r_iadd dL_law_440 h139 ?_
        obtain ⟨h140, h⟩ := h
        obtain ⟨h141, h⟩ := h
        refine r_sald rfl dL_law_441 h140 h141 ?_
        refine r_aload_n 0 dL_law_442 rfl rfl ?_
        refine r_iload_n 3 dL_law_443 rfl rfl ?_
        refine r_iconst dL_law_444 (by decide) (by decide) ?_
        obtain ⟨h142, h⟩ := h
        refine r_iadd dL_law_445 h142 ?_
        obtain ⟨h143, h⟩ := h
        obtain ⟨h144, h⟩ := h
        refine r_sald rfl dL_law_446 h143 h144 ?_
        obtain ⟨h145, h⟩ := h
        obtain ⟨h146, h⟩ := h
        refine r_invV0 (M := mL_law) (As := [(0, (xs ((v3 + 1) : Int).toNat)), (0, (xs ((v3 + 2) : Int).toNat))]) (st := []) (X := v1) h ok_X11_width cls11 im_X11_width se_X11_width ml_RL_51 dL_law_447 rfl h145 h146 (Nat.le_of_ble_eq_true rfl) rfl ?_
        rintro r K1 H147 ⟨rfl, x148, rfl, h⟩ -
        show Fr mL_law (d + 1) fc fs (some (L, xs)) 450 [(0, (2, (-2))), (1, (2, v1)), (2, (2, v2)), (3, (0, v3))] [(0, x148)] _ H147 _
        refine r_aload_n 2 dL_law_450 rfl rfl ?_
        refine r_aload_n 0 dL_law_451 rfl rfl ?_
        refine r_iload_n 3 dL_law_452 rfl rfl ?_
        refine r_iconst dL_law_453 (by decide) (by decide) ?_
        refine r_iadd dL_law_454 h139 ?_
        refine r_sald rfl dL_law_455 h140 h141 ?_
        refine r_aload_n 0 dL_law_456 rfl rfl ?_
        refine r_iload_n 3 dL_law_457 rfl rfl ?_
        refine r_iconst dL_law_458 (by decide) (by decide) ?_
        refine r_iadd dL_law_459 h142 ?_
        refine r_sald rfl dL_law_460 h143 h144 ?_
        obtain ⟨h149, h⟩ := h
        obtain ⟨h150, h⟩ := h
        refine r_invV0 (M := mL_law) (As := [(0, (xs ((v3 + 1) : Int).toNat)), (0, (xs ((v3 + 2) : Int).toNat))]) (st := [(0, x148)]) (X := v2) h ok_X12_width cls12 im_X12_width se_X12_width ml_RL_54 dL_law_461 rfl h149 h150 (Nat.le_of_ble_eq_true rfl) rfl ?_
        rintro r K1 H151 ⟨rfl, x152, rfl, h⟩ -
        show Fr mL_law (d + 1) fc fs (some (L, xs)) 464 [(0, (2, (-2))), (1, (2, v1)), (2, (2, v2)), (3, (0, v3))] [(0, x152), (0, x148)] _ H151 _
        refine r_icmp_eq (tgt := 1008) dL_law_464 (by decide) (fun c153 => ?_) (fun c153 => ?_)
        · replace h := h.1 c153
          obtain ⟨h154, h⟩ := h
          refine r_iinc 3 dL_law_1008 (by decide) rfl h154 rfl ?_
          refine r_goto (tgt := 18) dL_law_1011 (by decide) ?_
          refine Fr.fewer [1, 2, 3, 0] rfl ?_
          exact h
        · replace h := h.2 c153
          refine r_iconst dL_law_467 (by decide) (by decide) ?_
          exact r_zret dL_law_468 rfl (Or.inl rfl) h
      · refine ⟨_, 469, rfl, by decide, ?_⟩
        replace h := h.2.2.2.2.2.2.2.2.2.1 hj
        refine r_aload_n 1 dL_law_469 rfl rfl ?_
        refine r_aload_n 0 dL_law_470 rfl rfl ?_
        refine r_iload_n 3 dL_law_471 rfl rfl ?_
        refine r_iconst dL_law_472 (by decide) (by decide) ?_
        obtain ⟨h155, h⟩ := h
        refine r_iadd dL_law_473 h155 ?_
        obtain ⟨h156, h⟩ := h
        obtain ⟨h157, h⟩ := h
        refine r_sald rfl dL_law_474 h156 h157 ?_
        refine r_aload_n 0 dL_law_475 rfl rfl ?_
        refine r_iload_n 3 dL_law_476 rfl rfl ?_
        refine r_iconst dL_law_477 (by decide) (by decide) ?_
        obtain ⟨h158, h⟩ := h
        refine r_iadd dL_law_478 h158 ?_
        obtain ⟨h159, h⟩ := h
        obtain ⟨h160, h⟩ := h
        refine r_sald rfl dL_law_479 h159 h160 ?_
        refine r_aload_n 0 dL_law_480 rfl rfl ?_
        refine r_iload_n 3 dL_law_481 rfl rfl ?_
        refine r_iconst dL_law_482 (by decide) (by decide) ?_
        obtain ⟨h161, h⟩ := h
        refine r_iadd dL_law_483 h161 ?_
        obtain ⟨h162, h⟩ := h
        obtain ⟨h163, h⟩ := h
        refine r_sald rfl dL_law_484 h162 h163 ?_
        refine r_if_eq (tgt := 492) dL_law_485 (by decide) (fun c164 => ?_) (fun c164 => ?_)
        · replace h := h.1 c164
          refine r_iconst dL_law_492 (by decide) (by decide) ?_
          obtain ⟨h165, h⟩ := h
          obtain ⟨h166, h⟩ := h
          refine r_invV0 (M := mL_law) (As := [(0, (xs ((v3 + 1) : Int).toNat)), (0, (xs ((v3 + 2) : Int).toNat)), (0, 0)]) (st := []) (X := v1) h ok_X11_bend cls11 im_X11_bend se_X11_bend ml_RL_55 dL_law_493 rfl h165 h166 (Nat.le_of_ble_eq_true rfl) rfl ?_
          rintro r K1 H167 ⟨rfl, x168, rfl, h⟩ -
          show Fr mL_law (d + 1) fc fs (some (L, xs)) 496 [(0, (2, (-2))), (1, (2, v1)), (2, (2, v2)), (3, (0, v3))] [(0, x168)] _ H167 _
          refine r_aload_n 2 dL_law_496 rfl rfl ?_
          refine r_aload_n 0 dL_law_497 rfl rfl ?_
          refine r_iload_n 3 dL_law_498 rfl rfl ?_
          refine r_iconst dL_law_499 (by decide) (by decide) ?_
          refine r_iadd dL_law_500 h155 ?_
          refine r_sald rfl dL_law_501 h156 h157 ?_
          refine r_aload_n 0 dL_law_502 rfl rfl ?_
          refine r_iload_n 3 dL_law_503 rfl rfl ?_
          refine r_iconst dL_law_504 (by decide) (by decide) ?_
          refine r_iadd dL_law_505 h158 ?_
          refine r_sald rfl dL_law_506 h159 h160 ?_
          refine r_aload_n 0 dL_law_507 rfl rfl ?_
          refine r_iload_n 3 dL_law_508 rfl rfl ?_
          refine r_iconst dL_law_509 (by decide) (by decide) ?_
          refine r_iadd dL_law_510 h161 ?_
          refine r_sald rfl dL_law_511 h162 h163 ?_
          refine r_if_eq (tgt := 519) dL_law_512 (by decide) (fun c169 => ?_) (fun c169 => ?_)
          · replace h := h.1 c169
            refine r_iconst dL_law_519 (by decide) (by decide) ?_
            obtain ⟨h170, h⟩ := h
            obtain ⟨h171, h⟩ := h
            refine r_invV0 (M := mL_law) (As := [(0, (xs ((v3 + 1) : Int).toNat)), (0, (xs ((v3 + 2) : Int).toNat)), (0, 0)]) (st := [(0, x168)]) (X := v2) h ok_X12_bend cls12 im_X12_bend se_X12_bend ml_RL_59 dL_law_520 rfl h170 h171 (Nat.le_of_ble_eq_true rfl) rfl ?_
            rintro r K1 H172 ⟨rfl, x173, rfl, h⟩ -
            show Fr mL_law (d + 1) fc fs (some (L, xs)) 523 [(0, (2, (-2))), (1, (2, v1)), (2, (2, v2)), (3, (0, v3))] [(0, x173), (0, x168)] _ H172 _
            refine r_icmp_eq (tgt := 1008) dL_law_523 (by decide) (fun c174 => ?_) (fun c174 => ?_)
            · replace h := h.1 c174
              obtain ⟨h175, h⟩ := h
              refine r_iinc 3 dL_law_1008 (by decide) rfl h175 rfl ?_
              refine r_goto (tgt := 18) dL_law_1011 (by decide) ?_
              refine Fr.fewer [1, 2, 3, 0] rfl ?_
              exact h
            · replace h := h.2 c174
              refine r_iconst dL_law_526 (by decide) (by decide) ?_
              exact r_zret dL_law_527 rfl (Or.inl rfl) h
          · replace h := h.2 c169
            refine r_iconst dL_law_515 (by decide) (by decide) ?_
            refine r_goto (tgt := 520) dL_law_516 (by decide) ?_
            obtain ⟨h176, h⟩ := h
            obtain ⟨h177, h⟩ := h
            refine r_invV0 (M := mL_law) (As := [(0, (xs ((v3 + 1) : Int).toNat)), (0, (xs ((v3 + 2) : Int).toNat)), (0, 1)]) (st := [(0, x168)]) (X := v2) h ok_X12_bend cls12 im_X12_bend se_X12_bend ml_RL_59 dL_law_520 rfl h176 h177 (Nat.le_of_ble_eq_true rfl) rfl ?_
            rintro r K1 H178 ⟨rfl, x179, rfl, h⟩ -
            show Fr mL_law (d + 1) fc fs (some (L, xs)) 523 [(0, (2, (-2))), (1, (2, v1)), (2, (2, v2)), (3, (0, v3))] [(0, x179), (0, x168)] _ H178 _
            refine r_icmp_eq (tgt := 1008) dL_law_523 (by decide) (fun c180 => ?_) (fun c180 => ?_)
            · replace h := h.1 c180
              obtain ⟨h181, h⟩ := h
              refine r_iinc 3 dL_law_1008 (by decide) rfl h181 rfl ?_
              refine r_goto (tgt := 18) dL_law_1011 (by decide) ?_
              refine Fr.fewer [1, 2, 3, 0] rfl ?_
              exact h
            · replace h := h.2 c180
              refine r_iconst dL_law_526 (by decide) (by decide) ?_
              exact r_zret dL_law_527 rfl (Or.inl rfl) h
        · replace h := h.2 c164
          refine r_iconst dL_law_488 (by decide) (by decide) ?_
          refine r_goto (tgt := 493) dL_law_489 (by decide) ?_
          obtain ⟨h182, h⟩ := h
          obtain ⟨h183, h⟩ := h
          refine r_invV0 (M := mL_law) (As := [(0, (xs ((v3 + 1) : Int).toNat)), (0, (xs ((v3 + 2) : Int).toNat)), (0, 1)]) (st := []) (X := v1) h ok_X11_bend cls11 im_X11_bend se_X11_bend ml_RL_55 dL_law_493 rfl h182 h183 (Nat.le_of_ble_eq_true rfl) rfl ?_
          rintro r K1 H184 ⟨rfl, x185, rfl, h⟩ -
          show Fr mL_law (d + 1) fc fs (some (L, xs)) 496 [(0, (2, (-2))), (1, (2, v1)), (2, (2, v2)), (3, (0, v3))] [(0, x185)] _ H184 _
          refine r_aload_n 2 dL_law_496 rfl rfl ?_
          refine r_aload_n 0 dL_law_497 rfl rfl ?_
          refine r_iload_n 3 dL_law_498 rfl rfl ?_
          refine r_iconst dL_law_499 (by decide) (by decide) ?_
          refine r_iadd dL_law_500 h155 ?_
          refine r_sald rfl dL_law_501 h156 h157 ?_
          refine r_aload_n 0 dL_law_502 rfl rfl ?_
          refine r_iload_n 3 dL_law_503 rfl rfl ?_
          refine r_iconst dL_law_504 (by decide) (by decide) ?_
          refine r_iadd dL_law_505 h158 ?_
          refine r_sald rfl dL_law_506 h159 h160 ?_
          refine r_aload_n 0 dL_law_507 rfl rfl ?_
          refine r_iload_n 3 dL_law_508 rfl rfl ?_
          refine r_iconst dL_law_509 (by decide) (by decide) ?_
          refine r_iadd dL_law_510 h161 ?_
          refine r_sald rfl dL_law_511 h162 h163 ?_
          refine r_if_eq (tgt := 519) dL_law_512 (by decide) (fun c186 => ?_) (fun c186 => ?_)
          · replace h := h.1 c186
            refine r_iconst dL_law_519 (by decide) (by decide) ?_
            obtain ⟨h187, h⟩ := h
            obtain ⟨h188, h⟩ := h
            refine r_invV0 (M := mL_law) (As := [(0, (xs ((v3 + 1) : Int).toNat)), (0, (xs ((v3 + 2) : Int).toNat)), (0, 0)]) (st := [(0, x185)]) (X := v2) h ok_X12_bend cls12 im_X12_bend se_X12_bend ml_RL_59 dL_law_520 rfl h187 h188 (Nat.le_of_ble_eq_true rfl) rfl ?_
            rintro r K1 H189 ⟨rfl, x190, rfl, h⟩ -
            show Fr mL_law (d + 1) fc fs (some (L, xs)) 523 [(0, (2, (-2))), (1, (2, v1)), (2, (2, v2)), (3, (0, v3))] [(0, x190), (0, x185)] _ H189 _
            refine r_icmp_eq (tgt := 1008) dL_law_523 (by decide) (fun c191 => ?_) (fun c191 => ?_)
            · replace h := h.1 c191
              obtain ⟨h192, h⟩ := h
              refine r_iinc 3 dL_law_1008 (by decide) rfl h192 rfl ?_
              refine r_goto (tgt := 18) dL_law_1011 (by decide) ?_
              refine Fr.fewer [1, 2, 3, 0] rfl ?_
              exact h
            · replace h := h.2 c191
              refine r_iconst dL_law_526 (by decide) (by decide) ?_
              exact r_zret dL_law_527 rfl (Or.inl rfl) h
          · replace h := h.2 c186
            refine r_iconst dL_law_515 (by decide) (by decide) ?_
            refine r_goto (tgt := 520) dL_law_516 (by decide) ?_
            obtain ⟨h193, h⟩ := h
            obtain ⟨h194, h⟩ := h
            refine r_invV0 (M := mL_law) (As := [(0, (xs ((v3 + 1) : Int).toNat)), (0, (xs ((v3 + 2) : Int).toNat)), (0, 1)]) (st := [(0, x185)]) (X := v2) h ok_X12_bend cls12 im_X12_bend se_X12_bend ml_RL_59 dL_law_520 rfl h193 h194 (Nat.le_of_ble_eq_true rfl) rfl ?_
            rintro r K1 H195 ⟨rfl, x196, rfl, h⟩ -
            show Fr mL_law (d + 1) fc fs (some (L, xs)) 523 [(0, (2, (-2))), (1, (2, v1)), (2, (2, v2)), (3, (0, v3))] [(0, x196), (0, x185)] _ H195 _
            refine r_icmp_eq (tgt := 1008) dL_law_523 (by decide) (fun c197 => ?_) (fun c197 => ?_)
            · replace h := h.1 c197
              obtain ⟨h198, h⟩ := h
              refine r_iinc 3 dL_law_1008 (by decide) rfl h198 rfl ?_
              refine r_goto (tgt := 18) dL_law_1011 (by decide) ?_
              refine Fr.fewer [1, 2, 3, 0] rfl ?_
              exact h
            · replace h := h.2 c197
              refine r_iconst dL_law_526 (by decide) (by decide) ?_
              exact r_zret dL_law_527 rfl (Or.inl rfl) h
      · refine ⟨_, 528, rfl, by decide, ?_⟩
        replace h := h.2.2.2.2.2.2.2.2.2.2.1 hj
        refine r_aload_n 1 dL_law_528 rfl rfl ?_
        refine r_aload_n 0 dL_law_529 rfl rfl ?_
        refine r_iload_n 3 dL_law_530 rfl rfl ?_
        refine r_iconst dL_law_531 (by decide) (by decide) ?_
        obtain ⟨h199, h⟩ := h
        refine r_iadd dL_law_532 h199 ?_
        obtain ⟨h200, h⟩ := h
        obtain ⟨h201, h⟩ := h
        refine r_sald rfl dL_law_533 h200 h201 ?_
        refine r_aload_n 0 dL_law_534 rfl rfl ?_
        refine r_iload_n 3 dL_law_535 rfl rfl ?_
        refine r_iconst dL_law_536 (by decide) (by decide) ?_
        obtain ⟨h202, h⟩ := h
        refine r_iadd dL_law_537 h202 ?_
        obtain ⟨h203, h⟩ := h
        obtain ⟨h204, h⟩ := h
        refine r_sald rfl dL_law_538 h203 h204 ?_
        refine r_aload_n 0 dL_law_539 rfl rfl ?_
        refine r_iload_n 3 dL_law_540 rfl rfl ?_
        refine r_iconst dL_law_541 (by decide) (by decide) ?_
        obtain ⟨h205, h⟩ := h
        refine r_iadd dL_law_542 h205 ?_
        obtain ⟨h206, h⟩ := h
        obtain ⟨h207, h⟩ := h
        refine r_sald rfl dL_law_543 h206 h207 ?_
        refine r_if_eq (tgt := 551) dL_law_544 (by decide) (fun c208 => ?_) (fun c208 => ?_)
        · replace h := h.1 c208
          refine r_iconst dL_law_551 (by decide) (by decide) ?_
          obtain ⟨h209, h⟩ := h
          obtain ⟨h210, h⟩ := h
          refine r_invV0 (M := mL_law) (As := [(0, (xs ((v3 + 1) : Int).toNat)), (0, (xs ((v3 + 2) : Int).toNat)), (0, 0)]) (st := []) (X := v1) h ok_X11_cut cls11 im_X11_cut se_X11_cut ml_RL_60 dL_law_552 rfl h209 h210 (Nat.le_of_ble_eq_true rfl) rfl ?_
          rintro r K1 H211 ⟨rfl, x212, rfl, h⟩ -
          show Fr mL_law (d + 1) fc fs (some (L, xs)) 555 [(0, (2, (-2))), (1, (2, v1)), (2, (2, v2)), (3, (0, v3))] [(0, x212)] _ H211 _
          refine r_aload_n 2 dL_law_555 rfl rfl ?_
          refine r_aload_n 0 dL_law_556 rfl rfl ?_
          refine r_iload_n 3 dL_law_557 rfl rfl ?_
          refine r_iconst dL_law_558 (by decide) (by decide) ?_
          refine r_iadd dL_law_559 h199 ?_
          refine r_sald rfl dL_law_560 h200 h201 ?_
          refine r_aload_n 0 dL_law_561 rfl rfl ?_
          refine r_iload_n 3 dL_law_562 rfl rfl ?_
          refine r_iconst dL_law_563 (by decide) (by decide) ?_
          refine r_iadd dL_law_564 h202 ?_
          refine r_sald rfl dL_law_565 h203 h204 ?_
          refine r_aload_n 0 dL_law_566 rfl rfl ?_
          refine r_iload_n 3 dL_law_567 rfl rfl ?_
          refine r_iconst dL_law_568 (by decide) (by decide) ?_
          refine r_iadd dL_law_569 h205 ?_
          refine r_sald rfl dL_law_570 h206 h207 ?_
          refine r_if_eq (tgt := 578) dL_law_571 (by decide) (fun c213 => ?_) (fun c213 => ?_)
          · replace h := h.1 c213
            refine r_iconst dL_law_578 (by decide) (by decide) ?_
            obtain ⟨h214, h⟩ := h
            obtain ⟨h215, h⟩ := h
            refine r_invV0 (M := mL_law) (As := [(0, (xs ((v3 + 1) : Int).toNat)), (0, (xs ((v3 + 2) : Int).toNat)), (0, 0)]) (st := [(0, x212)]) (X := v2) h ok_X12_cut cls12 im_X12_cut se_X12_cut ml_RL_63 dL_law_579 rfl h214 h215 (Nat.le_of_ble_eq_true rfl) rfl ?_
            rintro r K1 H216 ⟨rfl, x217, rfl, h⟩ -
            show Fr mL_law (d + 1) fc fs (some (L, xs)) 582 [(0, (2, (-2))), (1, (2, v1)), (2, (2, v2)), (3, (0, v3))] [(0, x217), (0, x212)] _ H216 _
            refine r_icmp_eq (tgt := 1008) dL_law_582 (by decide) (fun c218 => ?_) (fun c218 => ?_)
            · replace h := h.1 c218
              obtain ⟨h219, h⟩ := h
              refine r_iinc 3 dL_law_1008 (by decide) rfl h219 rfl ?_
              refine r_goto (tgt := 18) dL_law_1011 (by decide) ?_
              refine Fr.fewer [1, 2, 3, 0] rfl ?_
              exact h
            · replace h := h.2 c218
              refine r_iconst dL_law_585 (by decide) (by decide) ?_
              exact r_zret dL_law_586 rfl (Or.inl rfl) h
          · replace h := h.2 c213
            refine r_iconst dL_law_574 (by decide) (by decide) ?_
            refine r_goto (tgt := 579) dL_law_575 (by decide) ?_
            obtain ⟨h220, h⟩ := h
            obtain ⟨h221, h⟩ := h
            refine r_invV0 (M := mL_law) (As := [(0, (xs ((v3 + 1) : Int).toNat)), (0, (xs ((v3 + 2) : Int).toNat)), (0, 1)]) (st := [(0, x212)]) (X := v2) h ok_X12_cut cls12 im_X12_cut se_X12_cut ml_RL_63 dL_law_579 rfl h220 h221 (Nat.le_of_ble_eq_true rfl) rfl ?_
            rintro r K1 H222 ⟨rfl, x223, rfl, h⟩ -
            show Fr mL_law (d + 1) fc fs (some (L, xs)) 582 [(0, (2, (-2))), (1, (2, v1)), (2, (2, v2)), (3, (0, v3))] [(0, x223), (0, x212)] _ H222 _
            refine r_icmp_eq (tgt := 1008) dL_law_582 (by decide) (fun c224 => ?_) (fun c224 => ?_)
            · replace h := h.1 c224
              obtain ⟨h225, h⟩ := h
              refine r_iinc 3 dL_law_1008 (by decide) rfl h225 rfl ?_
              refine r_goto (tgt := 18) dL_law_1011 (by decide) ?_
              refine Fr.fewer [1, 2, 3, 0] rfl ?_
              exact h
            · replace h := h.2 c224
              refine r_iconst dL_law_585 (by decide) (by decide) ?_
              exact r_zret dL_law_586 rfl (Or.inl rfl) h
        · replace h := h.2 c208
          refine r_iconst dL_law_547 (by decide) (by decide) ?_
          refine r_goto (tgt := 552) dL_law_548 (by decide) ?_
          obtain ⟨h226, h⟩ := h
          obtain ⟨h227, h⟩ := h
          refine r_invV0 (M := mL_law) (As := [(0, (xs ((v3 + 1) : Int).toNat)), (0, (xs ((v3 + 2) : Int).toNat)), (0, 1)]) (st := []) (X := v1) h ok_X11_cut cls11 im_X11_cut se_X11_cut ml_RL_60 dL_law_552 rfl h226 h227 (Nat.le_of_ble_eq_true rfl) rfl ?_
          rintro r K1 H228 ⟨rfl, x229, rfl, h⟩ -
          show Fr mL_law (d + 1) fc fs (some (L, xs)) 555 [(0, (2, (-2))), (1, (2, v1)), (2, (2, v2)), (3, (0, v3))] [(0, x229)] _ H228 _
          refine r_aload_n 2 dL_law_555 rfl rfl ?_
          refine r_aload_n 0 dL_law_556 rfl rfl ?_
          refine r_iload_n 3 dL_law_557 rfl rfl ?_
          refine r_iconst dL_law_558 (by decide) (by decide) ?_
          refine r_iadd dL_law_559 h199 ?_
          refine r_sald rfl dL_law_560 h200 h201 ?_
          refine r_aload_n 0 dL_law_561 rfl rfl ?_
          refine r_iload_n 3 dL_law_562 rfl rfl ?_
          refine r_iconst dL_law_563 (by decide) (by decide) ?_
          refine r_iadd dL_law_564 h202 ?_
          refine r_sald rfl dL_law_565 h203 h204 ?_
          refine r_aload_n 0 dL_law_566 rfl rfl ?_
          refine r_iload_n 3 dL_law_567 rfl rfl ?_
          refine r_iconst dL_law_568 (by decide) (by decide) ?_
          refine r_iadd dL_law_569 h205 ?_
          refine r_sald rfl dL_law_570 h206 h207 ?_
          refine r_if_eq (tgt := 578) dL_law_571 (by decide) (fun c230 => ?_) (fun c230 => ?_)
          · replace h := h.1 c230
            refine r_iconst dL_law_578 (by decide) (by decide) ?_
            obtain ⟨h231, h⟩ := h
            obtain ⟨h232, h⟩ := h
            refine r_invV0 (M := mL_law) (As := [(0, (xs ((v3 + 1) : Int).toNat)), (0, (xs ((v3 + 2) : Int).toNat)), (0, 0)]) (st := [(0, x229)]) (X := v2) h ok_X12_cut cls12 im_X12_cut se_X12_cut ml_RL_63 dL_law_579 rfl h231 h232 (Nat.le_of_ble_eq_true rfl) rfl ?_
            rintro r K1 H233 ⟨rfl, x234, rfl, h⟩ -
            show Fr mL_law (d + 1) fc fs (some (L, xs)) 582 [(0, (2, (-2))), (1, (2, v1)), (2, (2, v2)), (3, (0, v3))] [(0, x234), (0, x229)] _ H233 _
            refine r_icmp_eq (tgt := 1008) dL_law_582 (by decide) (fun c235 => ?_) (fun c235 => ?_)
            · replace h := h.1 c235
              obtain ⟨h236, h⟩ := h
              refine r_iinc 3 dL_law_1008 (by decide) rfl h236 rfl ?_
              refine r_goto (tgt := 18) dL_law_1011 (by decide) ?_
              refine Fr.fewer [1, 2, 3, 0] rfl ?_
              exact h
            · replace h := h.2 c235
              refine r_iconst dL_law_585 (by decide) (by decide) ?_
              exact r_zret dL_law_586 rfl (Or.inl rfl) h
          · replace h := h.2 c230
            refine r_iconst dL_law_574 (by decide) (by decide) ?_
            refine r_goto (tgt := 579) dL_law_575 (by decide) ?_
            obtain ⟨h237, h⟩ := h
            obtain ⟨h238, h⟩ := h
            refine r_invV0 (M := mL_law) (As := [(0, (xs ((v3 + 1) : Int).toNat)), (0, (xs ((v3 + 2) : Int).toNat)), (0, 1)]) (st := [(0, x229)]) (X := v2) h ok_X12_cut cls12 im_X12_cut se_X12_cut ml_RL_63 dL_law_579 rfl h237 h238 (Nat.le_of_ble_eq_true rfl) rfl ?_
            rintro r K1 H239 ⟨rfl, x240, rfl, h⟩ -
            show Fr mL_law (d + 1) fc fs (some (L, xs)) 582 [(0, (2, (-2))), (1, (2, v1)), (2, (2, v2)), (3, (0, v3))] [(0, x240), (0, x229)] _ H239 _
            refine r_icmp_eq (tgt := 1008) dL_law_582 (by decide) (fun c241 => ?_) (fun c241 => ?_)
            · replace h := h.1 c241
              obtain ⟨h242, h⟩ := h
              refine r_iinc 3 dL_law_1008 (by decide) rfl h242 rfl ?_
              refine r_goto (tgt := 18) dL_law_1011 (by decide) ?_
              refine Fr.fewer [1, 2, 3, 0] rfl ?_
              exact h
            · replace h := h.2 c241
              refine r_iconst dL_law_585 (by decide) (by decide) ?_
              exact r_zret dL_law_586 rfl (Or.inl rfl) h
      · refine ⟨_, 587, rfl, by decide, ?_⟩
        replace h := h.2.2.2.2.2.2.2.2.2.2.2.1 hj
        refine r_aload_n 1 dL_law_587 rfl rfl ?_
        refine r_aload_n 0 dL_law_588 rfl rfl ?_
        refine r_iload_n 3 dL_law_589 rfl rfl ?_
        refine r_iconst dL_law_590 (by decide) (by decide) ?_
        obtain ⟨h243, h⟩ := h
        refine r_iadd dL_law_591 h243 ?_
        obtain ⟨h244, h⟩ := h
        obtain ⟨h245, h⟩ := h
        refine r_sald rfl dL_law_592 h244 h245 ?_
        refine r_aload_n 0 dL_law_593 rfl rfl ?_
        refine r_iload_n 3 dL_law_594 rfl rfl ?_
        refine r_iconst dL_law_595 (by decide) (by decide) ?_
        obtain ⟨h246, h⟩ := h
        refine r_iadd dL_law_596 h246 ?_
        obtain ⟨h247, h⟩ := h
        obtain ⟨h248, h⟩ := h
        refine r_sald rfl dL_law_597 h247 h248 ?_
        refine r_aload_n 0 dL_law_598 rfl rfl ?_
        refine r_iload_n 3 dL_law_599 rfl rfl ?_
        refine r_iconst dL_law_600 (by decide) (by decide) ?_
        obtain ⟨h249, h⟩ := h
        refine r_iadd dL_law_601 h249 ?_
        obtain ⟨h250, h⟩ := h
        obtain ⟨h251, h⟩ := h
        refine r_sald rfl dL_law_602 h250 h251 ?_
        obtain ⟨h252, h⟩ := h
        obtain ⟨h253, h⟩ := h
        refine r_invV0 (M := mL_law) (As := [(0, (xs ((v3 + 1) : Int).toNat)), (0, (xs ((v3 + 2) : Int).toNat)), (0, (xs ((v3 + 3) : Int).toNat))]) (st := []) (X := v1) h ok_X11_borne cls11 im_X11_borne se_X11_borne ml_RL_64 dL_law_603 rfl h252 h253 (Nat.le_of_ble_eq_true rfl) rfl ?_
        rintro r K1 H254 ⟨rfl, x255, rfl, h⟩ -
        show Fr mL_law (d + 1) fc fs (some (L, xs)) 606 [(0, (2, (-2))), (1, (2, v1)), (2, (2, v2)), (3, (0, v3))] [(0, x255)] _ H254 _
        refine r_aload_n 2 dL_law_606 rfl rfl ?_
        refine r_aload_n 0 dL_law_607 rfl rfl ?_
        refine r_iload_n 3 dL_law_608 rfl rfl ?_
        refine r_iconst dL_law_609 (by decide) (by decide) ?_
        refine r_iadd dL_law_610 h243 ?_
        refine r_sald rfl dL_law_611 h244 h245 ?_
        refine r_aload_n 0 dL_law_612 rfl rfl ?_
        refine r_iload_n 3 dL_law_613 rfl rfl ?_
        refine r_iconst dL_law_614 (by decide) (by decide) ?_
        refine r_iadd dL_law_615 h246 ?_
        refine r_sald rfl dL_law_616 h247 h248 ?_
        refine r_aload_n 0 dL_law_617 rfl rfl ?_
        refine r_iload_n 3 dL_law_618 rfl rfl ?_
        refine r_iconst dL_law_619 (by decide) (by decide) ?_
        refine r_iadd dL_law_620 h249 ?_
        refine r_sald rfl dL_law_621 h250 h251 ?_
        obtain ⟨h256, h⟩ := h
        obtain ⟨h257, h⟩ := h
        refine r_invV0 (M := mL_law) (As := [(0, (xs ((v3 + 1) : Int).toNat)), (0, (xs ((v3 + 2) : Int).toNat)), (0, (xs ((v3 + 3) : Int).toNat))]) (st := [(0, x255)]) (X := v2) h ok_X12_borne cls12 im_X12_borne se_X12_borne ml_RL_67 dL_law_622 rfl h256 h257 (Nat.le_of_ble_eq_true rfl) rfl ?_
        rintro r K1 H258 ⟨rfl, x259, rfl, h⟩ -
        show Fr mL_law (d + 1) fc fs (some (L, xs)) 625 [(0, (2, (-2))), (1, (2, v1)), (2, (2, v2)), (3, (0, v3))] [(0, x259), (0, x255)] _ H258 _
        refine r_icmp_eq (tgt := 1008) dL_law_625 (by decide) (fun c260 => ?_) (fun c260 => ?_)
        · replace h := h.1 c260
          obtain ⟨h261, h⟩ := h
          refine r_iinc 3 dL_law_1008 (by decide) rfl h261 rfl ?_
          refine r_goto (tgt := 18) dL_law_1011 (by decide) ?_
          refine Fr.fewer [1, 2, 3, 0] rfl ?_
          exact h
        · replace h := h.2 c260
          refine r_iconst dL_law_628 (by decide) (by decide) ?_
          exact r_zret dL_law_629 rfl (Or.inl rfl) h
      · refine ⟨_, 630, rfl, by decide, ?_⟩
        replace h := h.2.2.2.2.2.2.2.2.2.2.2.2.1 hj
        refine r_aload_n 1 dL_law_630 rfl rfl ?_
        refine r_aload_n 0 dL_law_631 rfl rfl ?_
        refine r_iload_n 3 dL_law_632 rfl rfl ?_
        refine r_iconst dL_law_633 (by decide) (by decide) ?_
        obtain ⟨h262, h⟩ := h
        refine r_iadd dL_law_634 h262 ?_
        obtain ⟨h263, h⟩ := h
        obtain ⟨h264, h⟩ := h
        refine r_sald rfl dL_law_635 h263 h264 ?_
        refine r_aload_n 0 dL_law_636 rfl rfl ?_
        refine r_iload_n 3 dL_law_637 rfl rfl ?_
        refine r_iconst dL_law_638 (by decide) (by decide) ?_
        obtain ⟨h265, h⟩ := h
        refine r_iadd dL_law_639 h265 ?_
        obtain ⟨h266, h⟩ := h
        obtain ⟨h267, h⟩ := h
        refine r_sald rfl dL_law_640 h266 h267 ?_
        obtain ⟨h268, h⟩ := h
        obtain ⟨h269, h⟩ := h
        refine r_invV0 (M := mL_law) (As := [(0, (xs ((v3 + 1) : Int).toNat)), (0, (xs ((v3 + 2) : Int).toNat))]) (st := []) (X := v1) h ok_X11_pair cls11 im_X11_pair se_X11_pair ml_RL_68 dL_law_641 rfl h268 h269 (Nat.le_of_ble_eq_true rfl) rfl ?_
        rintro r K1 H270 ⟨rfl, x271, rfl, h⟩ -
        show Fr mL_law (d + 1) fc fs (some (L, xs)) 644 [(0, (2, (-2))), (1, (2, v1)), (2, (2, v2)), (3, (0, v3))] [(0, x271)] _ H270 _
        refine r_aload_n 2 dL_law_644 rfl rfl ?_
        refine r_aload_n 0 dL_law_645 rfl rfl ?_
        refine r_iload_n 3 dL_law_646 rfl rfl ?_
        refine r_iconst dL_law_647 (by decide) (by decide) ?_
        refine r_iadd dL_law_648 h262 ?_
        refine r_sald rfl dL_law_649 h263 h264 ?_
        refine r_aload_n 0 dL_law_650 rfl rfl ?_
        refine r_iload_n 3 dL_law_651 rfl rfl ?_
        refine r_iconst dL_law_652 (by decide) (by decide) ?_
        refine r_iadd dL_law_653 h265 ?_
        refine r_sald rfl dL_law_654 h266 h267 ?_
        obtain ⟨h272, h⟩ := h
        obtain ⟨h273, h⟩ := h
        refine r_invV0 (M := mL_law) (As := [(0, (xs ((v3 + 1) : Int).toNat)), (0, (xs ((v3 + 2) : Int).toNat))]) (st := [(0, x271)]) (X := v2) h ok_X12_pair cls12 im_X12_pair se_X12_pair ml_RL_71 dL_law_655 rfl h272 h273 (Nat.le_of_ble_eq_true rfl) rfl ?_
        rintro r K1 H274 ⟨rfl, x275, rfl, h⟩ -
        show Fr mL_law (d + 1) fc fs (some (L, xs)) 658 [(0, (2, (-2))), (1, (2, v1)), (2, (2, v2)), (3, (0, v3))] [(0, x275), (0, x271)] _ H274 _
        refine r_icmp_eq (tgt := 1008) dL_law_658 (by decide) (fun c276 => ?_) (fun c276 => ?_)
        · replace h := h.1 c276
          obtain ⟨h277, h⟩ := h
          refine r_iinc 3 dL_law_1008 (by decide) rfl h277 rfl ?_
          refine r_goto (tgt := 18) dL_law_1011 (by decide) ?_
          refine Fr.fewer [1, 2, 3, 0] rfl ?_
          exact h
        · replace h := h.2 c276
          refine r_iconst dL_law_661 (by decide) (by decide) ?_
          exact r_zret dL_law_662 rfl (Or.inl rfl) h
      · refine ⟨_, 663, rfl, by decide, ?_⟩
        replace h := h.2.2.2.2.2.2.2.2.2.2.2.2.2.1 hj
        refine r_aload_n 1 dL_law_663 rfl rfl ?_
        obtain ⟨h278, h⟩ := h
        obtain ⟨h279, h⟩ := h
        refine r_invV0 (M := mL_law) (As := []) (st := []) (X := v1) h ok_X11_clear cls11 im_X11_clear se_X11_clear ml_RL_72 dL_law_664 rfl h278 h279 (Nat.le_of_ble_eq_true rfl) rfl ?_
        rintro r K1 H280 ⟨rfl, x281, rfl, h⟩ -
        show Fr mL_law (d + 1) fc fs (some (L, xs)) 667 [(0, (2, (-2))), (1, (2, v1)), (2, (2, v2)), (3, (0, v3))] [(0, x281)] _ H280 _
        refine r_aload_n 2 dL_law_667 rfl rfl ?_
        obtain ⟨h282, h⟩ := h
        obtain ⟨h283, h⟩ := h
        refine r_invV0 (M := mL_law) (As := []) (st := [(0, x281)]) (X := v2) h ok_X12_clear cls12 im_X12_clear se_X12_clear ml_RL_76 dL_law_668 rfl h282 h283 (Nat.le_of_ble_eq_true rfl) rfl ?_
        rintro r K1 H284 ⟨rfl, x285, rfl, h⟩ -
        show Fr mL_law (d + 1) fc fs (some (L, xs)) 671 [(0, (2, (-2))), (1, (2, v1)), (2, (2, v2)), (3, (0, v3))] [(0, x285), (0, x281)] _ H284 _
        refine r_icmp_eq (tgt := 1008) dL_law_671 (by decide) (fun c286 => ?_) (fun c286 => ?_)
        · replace h := h.1 c286
          obtain ⟨h287, h⟩ := h
          refine r_iinc 3 dL_law_1008 (by decide) rfl h287 rfl ?_
          refine r_goto (tgt := 18) dL_law_1011 (by decide) ?_
          refine Fr.fewer [1, 2, 3, 0] rfl ?_
          exact h
        · replace h := h.2 c286
          refine r_iconst dL_law_674 (by decide) (by decide) ?_
          exact r_zret dL_law_675 rfl (Or.inl rfl) h
      · refine ⟨_, 676, rfl, by decide, ?_⟩
        replace h := h.2.2.2.2.2.2.2.2.2.2.2.2.2.2.1 hj
        refine r_aload_n 1 dL_law_676 rfl rfl ?_
        refine r_aload_n 0 dL_law_677 rfl rfl ?_
        refine r_iload_n 3 dL_law_678 rfl rfl ?_
        refine r_iconst dL_law_679 (by decide) (by decide) ?_
        obtain ⟨h288, h⟩ := h
        refine r_iadd dL_law_680 h288 ?_
        obtain ⟨h289, h⟩ := h
        obtain ⟨h290, h⟩ := h
        refine r_sald rfl dL_law_681 h289 h290 ?_
        obtain ⟨h291, h⟩ := h
        obtain ⟨h292, h⟩ := h
        refine r_invV0 (M := mL_law) (As := [(0, (xs ((v3 + 1) : Int).toNat))]) (st := []) (X := v1) h ok_X11_safe cls11 im_X11_safe se_X11_safe ml_RL_77 dL_law_682 rfl h291 h292 (Nat.le_of_ble_eq_true rfl) rfl ?_
        rintro r K1 H293 ⟨rfl, x294, rfl, h⟩ -
        show Fr mL_law (d + 1) fc fs (some (L, xs)) 685 [(0, (2, (-2))), (1, (2, v1)), (2, (2, v2)), (3, (0, v3))] [(0, x294)] _ H293 _
        refine r_aload_n 2 dL_law_685 rfl rfl ?_
        refine r_aload_n 0 dL_law_686 rfl rfl ?_
        refine r_iload_n 3 dL_law_687 rfl rfl ?_
        refine r_iconst dL_law_688 (by decide) (by decide) ?_
        refine r_iadd dL_law_689 h288 ?_
        refine r_sald rfl dL_law_690 h289 h290 ?_
        obtain ⟨h295, h⟩ := h
        obtain ⟨h296, h⟩ := h
        refine r_invV0 (M := mL_law) (As := [(0, (xs ((v3 + 1) : Int).toNat))]) (st := [(0, x294)]) (X := v2) h ok_X12_safe cls12 im_X12_safe se_X12_safe ml_RL_80 dL_law_691 rfl h295 h296 (Nat.le_of_ble_eq_true rfl) rfl ?_
        rintro r K1 H297 ⟨rfl, x298, rfl, h⟩ -
        show Fr mL_law (d + 1) fc fs (some (L, xs)) 694 [(0, (2, (-2))), (1, (2, v1)), (2, (2, v2)), (3, (0, v3))] [(0, x298), (0, x294)] _ H297 _
        refine r_icmp_eq (tgt := 1008) dL_law_694 (by decide) (fun c299 => ?_) (fun c299 => ?_)
        · replace h := h.1 c299
          obtain ⟨h300, h⟩ := h
          refine r_iinc 3 dL_law_1008 (by decide) rfl h300 rfl ?_
          refine r_goto (tgt := 18) dL_law_1011 (by decide) ?_
          refine Fr.fewer [1, 2, 3, 0] rfl ?_
          exact h
        · replace h := h.2 c299
          refine r_iconst dL_law_697 (by decide) (by decide) ?_
          exact r_zret dL_law_698 rfl (Or.inl rfl) h
      · refine ⟨_, 699, rfl, by decide, ?_⟩
        replace h := h.2.2.2.2.2.2.2.2.2.2.2.2.2.2.2.1 hj
        refine r_aload_n 1 dL_law_699 rfl rfl ?_
        refine r_aload_n 0 dL_law_700 rfl rfl ?_
        refine r_iload_n 3 dL_law_701 rfl rfl ?_
        refine r_iconst dL_law_702 (by decide) (by decide) ?_
        obtain ⟨h301, h⟩ := h
        refine r_iadd dL_law_703 h301 ?_
        obtain ⟨h302, h⟩ := h
        obtain ⟨h303, h⟩ := h
        refine r_sald rfl dL_law_704 h302 h303 ?_
        refine r_aload_n 0 dL_law_705 rfl rfl ?_
        refine r_iload_n 3 dL_law_706 rfl rfl ?_
        refine r_iconst dL_law_707 (by decide) (by decide) ?_
        obtain ⟨h304, h⟩ := h
        refine r_iadd dL_law_708 h304 ?_
        obtain ⟨h305, h⟩ := h
        obtain ⟨h306, h⟩ := h
        refine r_sald rfl dL_law_709 h305 h306 ?_
        obtain ⟨h307, h⟩ := h
        obtain ⟨h308, h⟩ := h
        refine r_invV0 (M := mL_law) (As := [(0, (xs ((v3 + 1) : Int).toNat)), (0, (xs ((v3 + 2) : Int).toNat))]) (st := []) (X := v1) h ok_X11_size cls11 im_X11_size se_X11_size ml_RL_81 dL_law_710 rfl h307 h308 (Nat.le_of_ble_eq_true rfl) rfl ?_
        rintro r K1 H309 ⟨rfl, x310, rfl, h⟩ -
        show Fr mL_law (d + 1) fc fs (some (L, xs)) 713 [(0, (2, (-2))), (1, (2, v1)), (2, (2, v2)), (3, (0, v3))] [(0, x310)] _ H309 _
        refine r_aload_n 2 dL_law_713 rfl rfl ?_
        refine r_aload_n 0 dL_law_714 rfl rfl ?_
        refine r_iload_n 3 dL_law_715 rfl rfl ?_
        refine r_iconst dL_law_716 (by decide) (by decide) ?_
        refine r_iadd dL_law_717 h301 ?_
        refine r_sald rfl dL_law_718 h302 h303 ?_
        refine r_aload_n 0 dL_law_719 rfl rfl ?_
        refine r_iload_n 3 dL_law_720 rfl rfl ?_
        refine r_iconst dL_law_721 (by decide) (by decide) ?_
        refine r_iadd dL_law_722 h304 ?_
        refine r_sald rfl dL_law_723 h305 h306 ?_
        obtain ⟨h311, h⟩ := h
        obtain ⟨h312, h⟩ := h
        refine r_invV0 (M := mL_law) (As := [(0, (xs ((v3 + 1) : Int).toNat)), (0, (xs ((v3 + 2) : Int).toNat))]) (st := [(0, x310)]) (X := v2) h ok_X12_size cls12 im_X12_size se_X12_size ml_RL_84 dL_law_724 rfl h311 h312 (Nat.le_of_ble_eq_true rfl) rfl ?_
        rintro r K1 H313 ⟨rfl, x314, rfl, h⟩ -
        show Fr mL_law (d + 1) fc fs (some (L, xs)) 727 [(0, (2, (-2))), (1, (2, v1)), (2, (2, v2)), (3, (0, v3))] [(0, x314), (0, x310)] _ H313 _
        refine r_icmp_eq (tgt := 1008) dL_law_727 (by decide) (fun c315 => ?_) (fun c315 => ?_)
        · replace h := h.1 c315
          obtain ⟨h316, h⟩ := h
          refine r_iinc 3 dL_law_1008 (by decide) rfl h316 rfl ?_
          refine r_goto (tgt := 18) dL_law_1011 (by decide) ?_
          refine Fr.fewer [1, 2, 3, 0] rfl ?_
          exact h
        · replace h := h.2 c315
          refine r_iconst dL_law_730 (by decide) (by decide) ?_
          exact r_zret dL_law_731 rfl (Or.inl rfl) h
      · refine ⟨_, 732, rfl, by decide, ?_⟩
        replace h := h.2.2.2.2.2.2.2.2.2.2.2.2.2.2.2.2.1 hj
        refine r_aload_n 1 dL_law_732 rfl rfl ?_
        refine r_aload_n 0 dL_law_733 rfl rfl ?_
        refine r_iload_n 3 dL_law_734 rfl rfl ?_
        refine r_iconst dL_law_735 (by decide) (by decide) ?_
        obtain ⟨h317, h⟩ := h
        refine r_iadd dL_law_736 h317 ?_
        obtain ⟨h318, h⟩ := h
        obtain ⟨h319, h⟩ := h
        refine r_sald rfl dL_law_737 h318 h319 ?_
        obtain ⟨h320, h⟩ := h
        obtain ⟨h321, h⟩ := h
        refine r_invV0 (M := mL_law) (As := [(0, (xs ((v3 + 1) : Int).toNat))]) (st := []) (X := v1) h ok_X11_best cls11 im_X11_best se_X11_best ml_RL_85 dL_law_738 rfl h320 h321 (Nat.le_of_ble_eq_true rfl) rfl ?_
        rintro r K1 H322 ⟨rfl, x323, rfl, h⟩ -
        show Fr mL_law (d + 1) fc fs (some (L, xs)) 741 [(0, (2, (-2))), (1, (2, v1)), (2, (2, v2)), (3, (0, v3))] [(0, x323)] _ H322 _
        refine r_aload_n 2 dL_law_741 rfl rfl ?_
        refine r_aload_n 0 dL_law_742 rfl rfl ?_
        refine r_iload_n 3 dL_law_743 rfl rfl ?_
        refine r_iconst dL_law_744 (by decide) (by decide) ?_
        refine r_iadd dL_law_745 h317 ?_
        refine r_sald rfl dL_law_746 h318 h319 ?_
        obtain ⟨h324, h⟩ := h
        obtain ⟨h325, h⟩ := h
        refine r_invV0 (M := mL_law) (As := [(0, (xs ((v3 + 1) : Int).toNat))]) (st := [(0, x323)]) (X := v2) h ok_X12_best cls12 im_X12_best se_X12_best ml_RL_88 dL_law_747 rfl h324 h325 (Nat.le_of_ble_eq_true rfl) rfl ?_
        rintro r K1 H326 ⟨rfl, x327, rfl, h⟩ -
        show Fr mL_law (d + 1) fc fs (some (L, xs)) 750 [(0, (2, (-2))), (1, (2, v1)), (2, (2, v2)), (3, (0, v3))] [(0, x327), (0, x323)] _ H326 _
        refine r_icmp_eq (tgt := 1008) dL_law_750 (by decide) (fun c328 => ?_) (fun c328 => ?_)
        · replace h := h.1 c328
          obtain ⟨h329, h⟩ := h
          refine r_iinc 3 dL_law_1008 (by decide) rfl h329 rfl ?_
          refine r_goto (tgt := 18) dL_law_1011 (by decide) ?_
          refine Fr.fewer [1, 2, 3, 0] rfl ?_
          exact h
        · replace h := h.2 c328
          refine r_iconst dL_law_753 (by decide) (by decide) ?_
          exact r_zret dL_law_754 rfl (Or.inl rfl) h
      · refine ⟨_, 755, rfl, by decide, ?_⟩
        replace h := h.2.2.2.2.2.2.2.2.2.2.2.2.2.2.2.2.2.1 hj
        refine r_aload_n 1 dL_law_755 rfl rfl ?_
        refine r_aload_n 0 dL_law_756 rfl rfl ?_
        refine r_iload_n 3 dL_law_757 rfl rfl ?_
        refine r_iconst dL_law_758 (by decide) (by decide) ?_
        obtain ⟨h330, h⟩ := h
        refine r_iadd dL_law_759 h330 ?_
        obtain ⟨h331, h⟩ := h
        obtain ⟨h332, h⟩ := h
        refine r_sald rfl dL_law_760 h331 h332 ?_
        refine r_aload_n 0 dL_law_761 rfl rfl ?_
        refine r_iload_n 3 dL_law_762 rfl rfl ?_
        refine r_iconst dL_law_763 (by decide) (by decide) ?_
        obtain ⟨h333, h⟩ := h
        refine r_iadd dL_law_764 h333 ?_
        obtain ⟨h334, h⟩ := h
        obtain ⟨h335, h⟩ := h
        refine r_sald rfl dL_law_765 h334 h335 ?_
        obtain ⟨h336, h⟩ := h
        obtain ⟨h337, h⟩ := h
        refine r_invV0 (M := mL_law) (As := [(0, (xs ((v3 + 1) : Int).toNat)), (0, (xs ((v3 + 2) : Int).toNat))]) (st := []) (X := v1) h ok_X11_chosen cls11 im_X11_chosen se_X11_chosen ml_RL_89 dL_law_766 rfl h336 h337 (Nat.le_of_ble_eq_true rfl) rfl ?_
        rintro r K1 H338 ⟨rfl, x339, rfl, h⟩ -
        show Fr mL_law (d + 1) fc fs (some (L, xs)) 769 [(0, (2, (-2))), (1, (2, v1)), (2, (2, v2)), (3, (0, v3))] [(0, x339)] _ H338 _
        refine r_aload_n 2 dL_law_769 rfl rfl ?_
        refine r_aload_n 0 dL_law_770 rfl rfl ?_
        refine r_iload_n 3 dL_law_771 rfl rfl ?_
        refine r_iconst dL_law_772 (by decide) (by decide) ?_
        refine r_iadd dL_law_773 h330 ?_
        refine r_sald rfl dL_law_774 h331 h332 ?_
        refine r_aload_n 0 dL_law_775 rfl rfl ?_
        refine r_iload_n 3 dL_law_776 rfl rfl ?_
        refine r_iconst dL_law_777 (by decide) (by decide) ?_
        refine r_iadd dL_law_778 h333 ?_
        refine r_sald rfl dL_law_779 h334 h335 ?_
        obtain ⟨h340, h⟩ := h
        obtain ⟨h341, h⟩ := h
        refine r_invV0 (M := mL_law) (As := [(0, (xs ((v3 + 1) : Int).toNat)), (0, (xs ((v3 + 2) : Int).toNat))]) (st := [(0, x339)]) (X := v2) h ok_X12_chosen cls12 im_X12_chosen se_X12_chosen ml_RL_92 dL_law_780 rfl h340 h341 (Nat.le_of_ble_eq_true rfl) rfl ?_
        rintro r K1 H342 ⟨rfl, x343, rfl, h⟩ -
        show Fr mL_law (d + 1) fc fs (some (L, xs)) 783 [(0, (2, (-2))), (1, (2, v1)), (2, (2, v2)), (3, (0, v3))] [(0, x343), (0, x339)] _ H342 _
        refine r_icmp_eq (tgt := 1008) dL_law_783 (by decide) (fun c344 => ?_) (fun c344 => ?_)
        · replace h := h.1 c344
          obtain ⟨h345, h⟩ := h
          refine r_iinc 3 dL_law_1008 (by decide) rfl h345 rfl ?_
          refine r_goto (tgt := 18) dL_law_1011 (by decide) ?_
          refine Fr.fewer [1, 2, 3, 0] rfl ?_
          exact h
        · replace h := h.2 c344
          refine r_iconst dL_law_786 (by decide) (by decide) ?_
          exact r_zret dL_law_787 rfl (Or.inl rfl) h
      · refine ⟨_, 788, rfl, by decide, ?_⟩
        replace h := h.2.2.2.2.2.2.2.2.2.2.2.2.2.2.2.2.2.2.1 hj
        refine r_aload_n 1 dL_law_788 rfl rfl ?_
        refine r_aload_n 0 dL_law_789 rfl rfl ?_
        refine r_iload_n 3 dL_law_790 rfl rfl ?_
        refine r_iconst dL_law_791 (by decide) (by decide) ?_
        obtain ⟨h346, h⟩ := h
        refine r_iadd dL_law_792 h346 ?_
        obtain ⟨h347, h⟩ := h
        obtain ⟨h348, h⟩ := h
        refine r_sald rfl dL_law_793 h347 h348 ?_
        obtain ⟨h349, h⟩ := h
        obtain ⟨h350, h⟩ := h
        refine r_invV0 (M := mL_law) (As := [(0, (xs ((v3 + 1) : Int).toNat))]) (st := []) (X := v1) h ok_X11_take cls11 im_X11_take se_X11_take ml_RL_93 dL_law_794 rfl h349 h350 (Nat.le_of_ble_eq_true rfl) rfl ?_
        rintro r K1 H351 ⟨rfl, x352, rfl, h⟩ -
        show Fr mL_law (d + 1) fc fs (some (L, xs)) 797 [(0, (2, (-2))), (1, (2, v1)), (2, (2, v2)), (3, (0, v3))] [(0, x352)] _ H351 _
        refine r_aload_n 2 dL_law_797 rfl rfl ?_
        refine r_aload_n 0 dL_law_798 rfl rfl ?_
        refine r_iload_n 3 dL_law_799 rfl rfl ?_
        refine r_iconst dL_law_800 (by decide) (by decide) ?_
        refine r_iadd dL_law_801 h346 ?_
        refine r_sald rfl dL_law_802 h347 h348 ?_
        obtain ⟨h353, h⟩ := h
        obtain ⟨h354, h⟩ := h
        refine r_invV0 (M := mL_law) (As := [(0, (xs ((v3 + 1) : Int).toNat))]) (st := [(0, x352)]) (X := v2) h ok_X12_take cls12 im_X12_take se_X12_take ml_RL_96 dL_law_803 rfl h353 h354 (Nat.le_of_ble_eq_true rfl) rfl ?_
        rintro r K1 H355 ⟨rfl, x356, rfl, h⟩ -
        show Fr mL_law (d + 1) fc fs (some (L, xs)) 806 [(0, (2, (-2))), (1, (2, v1)), (2, (2, v2)), (3, (0, v3))] [(0, x356), (0, x352)] _ H355 _
        refine r_icmp_eq (tgt := 1008) dL_law_806 (by decide) (fun c357 => ?_) (fun c357 => ?_)
        · replace h := h.1 c357
          obtain ⟨h358, h⟩ := h
          refine r_iinc 3 dL_law_1008 (by decide) rfl h358 rfl ?_
          refine r_goto (tgt := 18) dL_law_1011 (by decide) ?_
          refine Fr.fewer [1, 2, 3, 0] rfl ?_
          exact h
        · replace h := h.2 c357
          refine r_iconst dL_law_809 (by decide) (by decide) ?_
          exact r_zret dL_law_810 rfl (Or.inl rfl) h
      · refine ⟨_, 811, rfl, by decide, ?_⟩
        replace h := h.2.2.2.2.2.2.2.2.2.2.2.2.2.2.2.2.2.2.2.1 hj
        refine r_aload_n 1 dL_law_811 rfl rfl ?_
        refine r_aload_n 0 dL_law_812 rfl rfl ?_
        refine r_iload_n 3 dL_law_813 rfl rfl ?_
        refine r_iconst dL_law_814 (by decide) (by decide) ?_
        obtain ⟨h359, h⟩ := h
        refine r_iadd dL_law_815 h359 ?_
        obtain ⟨h360, h⟩ := h
        obtain ⟨h361, h⟩ := h
        refine r_sald rfl dL_law_816 h360 h361 ?_
        refine r_aload_n 0 dL_law_817 rfl rfl ?_
        refine r_iload_n 3 dL_law_818 rfl rfl ?_
        refine r_iconst dL_law_819 (by decide) (by decide) ?_
        obtain ⟨h362, h⟩ := h
        refine r_iadd dL_law_820 h362 ?_
        obtain ⟨h363, h⟩ := h
        obtain ⟨h364, h⟩ := h
        refine r_sald rfl dL_law_821 h363 h364 ?_
        obtain ⟨h365, h⟩ := h
        obtain ⟨h366, h⟩ := h
        refine r_invV0 (M := mL_law) (As := [(0, (xs ((v3 + 1) : Int).toNat)), (0, (xs ((v3 + 2) : Int).toNat))]) (st := []) (X := v1) h ok_X11_span cls11 im_X11_span se_X11_span ml_RL_97 dL_law_822 rfl h365 h366 (Nat.le_of_ble_eq_true rfl) rfl ?_
        rintro r K1 H367 ⟨rfl, x368, rfl, h⟩ -
        show Fr mL_law (d + 1) fc fs (some (L, xs)) 825 [(0, (2, (-2))), (1, (2, v1)), (2, (2, v2)), (3, (0, v3))] [(0, x368)] _ H367 _
        refine r_aload_n 2 dL_law_825 rfl rfl ?_
        refine r_aload_n 0 dL_law_826 rfl rfl ?_
        refine r_iload_n 3 dL_law_827 rfl rfl ?_
        refine r_iconst dL_law_828 (by decide) (by decide) ?_
        refine r_iadd dL_law_829 h359 ?_
        refine r_sald rfl dL_law_830 h360 h361 ?_
        refine r_aload_n 0 dL_law_831 rfl rfl ?_
        refine r_iload_n 3 dL_law_832 rfl rfl ?_
        refine r_iconst dL_law_833 (by decide) (by decide) ?_
        refine r_iadd dL_law_834 h362 ?_
        refine r_sald rfl dL_law_835 h363 h364 ?_
        obtain ⟨h369, h⟩ := h
        obtain ⟨h370, h⟩ := h
        refine r_invV0 (M := mL_law) (As := [(0, (xs ((v3 + 1) : Int).toNat)), (0, (xs ((v3 + 2) : Int).toNat))]) (st := [(0, x368)]) (X := v2) h ok_X12_span cls12 im_X12_span se_X12_span ml_RL_100 dL_law_836 rfl h369 h370 (Nat.le_of_ble_eq_true rfl) rfl ?_
        rintro r K1 H371 ⟨rfl, x372, rfl, h⟩ -
        show Fr mL_law (d + 1) fc fs (some (L, xs)) 839 [(0, (2, (-2))), (1, (2, v1)), (2, (2, v2)), (3, (0, v3))] [(0, x372), (0, x368)] _ H371 _
        refine r_icmp_eq (tgt := 1008) dL_law_839 (by decide) (fun c373 => ?_) (fun c373 => ?_)
        · replace h := h.1 c373
          obtain ⟨h374, h⟩ := h
          refine r_iinc 3 dL_law_1008 (by decide) rfl h374 rfl ?_
          refine r_goto (tgt := 18) dL_law_1011 (by decide) ?_
          refine Fr.fewer [1, 2, 3, 0] rfl ?_
          exact h
        · replace h := h.2 c373
          refine r_iconst dL_law_842 (by decide) (by decide) ?_
          exact r_zret dL_law_843 rfl (Or.inl rfl) h
      · refine ⟨_, 844, rfl, by decide, ?_⟩
        replace h := h.2.2.2.2.2.2.2.2.2.2.2.2.2.2.2.2.2.2.2.2.1 hj
        refine r_aload_n 1 dL_law_844 rfl rfl ?_
        obtain ⟨h375, h⟩ := h
        obtain ⟨h376, h⟩ := h
        refine r_invV0 (M := mL_law) (As := []) (st := []) (X := v1) h ok_X11_away cls11 im_X11_away se_X11_away ml_RL_101 dL_law_845 rfl h375 h376 (Nat.le_of_ble_eq_true rfl) rfl ?_
        rintro r K1 H377 ⟨rfl, x378, rfl, h⟩ -
        show Fr mL_law (d + 1) fc fs (some (L, xs)) 848 [(0, (2, (-2))), (1, (2, v1)), (2, (2, v2)), (3, (0, v3))] [(0, x378)] _ H377 _
        refine r_aload_n 2 dL_law_848 rfl rfl ?_
        obtain ⟨h379, h⟩ := h
        obtain ⟨h380, h⟩ := h
        refine r_invV0 (M := mL_law) (As := []) (st := [(0, x378)]) (X := v2) h ok_X12_away cls12 im_X12_away se_X12_away ml_RL_104 dL_law_849 rfl h379 h380 (Nat.le_of_ble_eq_true rfl) rfl ?_
        rintro r K1 H381 ⟨rfl, x382, rfl, h⟩ -
        show Fr mL_law (d + 1) fc fs (some (L, xs)) 852 [(0, (2, (-2))), (1, (2, v1)), (2, (2, v2)), (3, (0, v3))] [(0, x382), (0, x378)] _ H381 _
        refine r_icmp_eq (tgt := 1008) dL_law_852 (by decide) (fun c383 => ?_) (fun c383 => ?_)
        · replace h := h.1 c383
          obtain ⟨h384, h⟩ := h
          refine r_iinc 3 dL_law_1008 (by decide) rfl h384 rfl ?_
          refine r_goto (tgt := 18) dL_law_1011 (by decide) ?_
          refine Fr.fewer [1, 2, 3, 0] rfl ?_
          exact h
        · replace h := h.2 c383
          refine r_iconst dL_law_855 (by decide) (by decide) ?_
          exact r_zret dL_law_856 rfl (Or.inl rfl) h
      · refine ⟨_, 857, rfl, by decide, ?_⟩
        replace h := h.2.2.2.2.2.2.2.2.2.2.2.2.2.2.2.2.2.2.2.2.2.1 hj
        refine r_aload_n 1 dL_law_857 rfl rfl ?_
        refine r_aload_n 0 dL_law_858 rfl rfl ?_
        refine r_iload_n 3 dL_law_859 rfl rfl ?_
        refine r_iconst dL_law_860 (by decide) (by decide) ?_
        obtain ⟨h385, h⟩ := h
        refine r_iadd dL_law_861 h385 ?_
        obtain ⟨h386, h⟩ := h
        obtain ⟨h387, h⟩ := h
        refine r_sald rfl dL_law_862 h386 h387 ?_
        refine r_aload_n 0 dL_law_863 rfl rfl ?_
        refine r_iload_n 3 dL_law_864 rfl rfl ?_
        refine r_iconst dL_law_865 (by decide) (by decide) ?_
        obtain ⟨h388, h⟩ := h
        refine r_iadd dL_law_866 h388 ?_
        obtain ⟨h389, h⟩ := h
        obtain ⟨h390, h⟩ := h
        refine r_sald rfl dL_law_867 h389 h390 ?_
        refine r_if_eq (tgt := 875) dL_law_868 (by decide) (fun c391 => ?_) (fun c391 => ?_)
        · replace h := h.1 c391
          refine r_iconst dL_law_875 (by decide) (by decide) ?_
          obtain ⟨h392, h⟩ := h
          obtain ⟨h393, h⟩ := h
          refine r_invV0 (M := mL_law) (As := [(0, (xs ((v3 + 1) : Int).toNat)), (0, 0)]) (st := []) (X := v1) h ok_X11_hold cls11 im_X11_hold se_X11_hold ml_RL_105 dL_law_876 rfl h392 h393 (Nat.le_of_ble_eq_true rfl) rfl ?_
          rintro r K1 H394 ⟨rfl, x395, rfl, h⟩ -
          show Fr mL_law (d + 1) fc fs (some (L, xs)) 879 [(0, (2, (-2))), (1, (2, v1)), (2, (2, v2)), (3, (0, v3))] [(0, x395)] _ H394 _
          refine r_aload_n 2 dL_law_879 rfl rfl ?_
          refine r_aload_n 0 dL_law_880 rfl rfl ?_
          refine r_iload_n 3 dL_law_881 rfl rfl ?_
          refine r_iconst dL_law_882 (by decide) (by decide) ?_
          refine r_iadd dL_law_883 h385 ?_
          refine r_sald rfl dL_law_884 h386 h387 ?_
          refine r_aload_n 0 dL_law_885 rfl rfl ?_
          refine r_iload_n 3 dL_law_886 rfl rfl ?_
          refine r_iconst dL_law_887 (by decide) (by decide) ?_
          refine r_iadd dL_law_888 h388 ?_
          refine r_sald rfl dL_law_889 h389 h390 ?_
          refine r_if_eq (tgt := 897) dL_law_890 (by decide) (fun c396 => ?_) (fun c396 => ?_)
          · replace h := h.1 c396
            refine r_iconst dL_law_897 (by decide) (by decide) ?_
            obtain ⟨h397, h⟩ := h
            obtain ⟨h398, h⟩ := h
            refine r_invV0 (M := mL_law) (As := [(0, (xs ((v3 + 1) : Int).toNat)), (0, 0)]) (st := [(0, x395)]) (X := v2) h ok_X12_hold cls12 im_X12_hold se_X12_hold ml_RL_109 dL_law_898 rfl h397 h398 (Nat.le_of_ble_eq_true rfl) rfl ?_
            rintro r K1 H399 ⟨rfl, x400, rfl, h⟩ -
            show Fr mL_law (d + 1) fc fs (some (L, xs)) 901 [(0, (2, (-2))), (1, (2, v1)), (2, (2, v2)), (3, (0, v3))] [(0, x400), (0, x395)] _ H399 _
            refine r_icmp_eq (tgt := 1008) dL_law_901 (by decide) (fun c401 => ?_) (fun c401 => ?_)
            · replace h := h.1 c401
              obtain ⟨h402, h⟩ := h
              refine r_iinc 3 dL_law_1008 (by decide) rfl h402 rfl ?_
              refine r_goto (tgt := 18) dL_law_1011 (by decide) ?_
              refine Fr.fewer [1, 2, 3, 0] rfl ?_
              exact h
            · replace h := h.2 c401
              refine r_iconst dL_law_904 (by decide) (by decide) ?_
              exact r_zret dL_law_905 rfl (Or.inl rfl) h
          · replace h := h.2 c396
            refine r_iconst dL_law_893 (by decide) (by decide) ?_
            refine r_goto (tgt := 898) dL_law_894 (by decide) ?_
            obtain ⟨h403, h⟩ := h
            obtain ⟨h404, h⟩ := h
            refine r_invV0 (M := mL_law) (As := [(0, (xs ((v3 + 1) : Int).toNat)), (0, 1)]) (st := [(0, x395)]) (X := v2) h ok_X12_hold cls12 im_X12_hold se_X12_hold ml_RL_109 dL_law_898 rfl h403 h404 (Nat.le_of_ble_eq_true rfl) rfl ?_
            rintro r K1 H405 ⟨rfl, x406, rfl, h⟩ -
            show Fr mL_law (d + 1) fc fs (some (L, xs)) 901 [(0, (2, (-2))), (1, (2, v1)), (2, (2, v2)), (3, (0, v3))] [(0, x406), (0, x395)] _ H405 _
            refine r_icmp_eq (tgt := 1008) dL_law_901 (by decide) (fun c407 => ?_) (fun c407 => ?_)
            · replace h := h.1 c407
              obtain ⟨h408, h⟩ := h
              refine r_iinc 3 dL_law_1008 (by decide) rfl h408 rfl ?_
              refine r_goto (tgt := 18) dL_law_1011 (by decide) ?_
              refine Fr.fewer [1, 2, 3, 0] rfl ?_
              exact h
            · replace h := h.2 c407
              refine r_iconst dL_law_904 (by decide) (by decide) ?_
              exact r_zret dL_law_905 rfl (Or.inl rfl) h
        · replace h := h.2 c391
          refine r_iconst dL_law_871 (by decide) (by decide) ?_
          refine r_goto (tgt := 876) dL_law_872 (by decide) ?_
          obtain ⟨h409, h⟩ := h
          obtain ⟨h410, h⟩ := h
          refine r_invV0 (M := mL_law) (As := [(0, (xs ((v3 + 1) : Int).toNat)), (0, 1)]) (st := []) (X := v1) h ok_X11_hold cls11 im_X11_hold se_X11_hold ml_RL_105 dL_law_876 rfl h409 h410 (Nat.le_of_ble_eq_true rfl) rfl ?_
          rintro r K1 H411 ⟨rfl, x412, rfl, h⟩ -
          show Fr mL_law (d + 1) fc fs (some (L, xs)) 879 [(0, (2, (-2))), (1, (2, v1)), (2, (2, v2)), (3, (0, v3))] [(0, x412)] _ H411 _
          refine r_aload_n 2 dL_law_879 rfl rfl ?_
          refine r_aload_n 0 dL_law_880 rfl rfl ?_
          refine r_iload_n 3 dL_law_881 rfl rfl ?_
          refine r_iconst dL_law_882 (by decide) (by decide) ?_
          refine r_iadd dL_law_883 h385 ?_
          refine r_sald rfl dL_law_884 h386 h387 ?_
          refine r_aload_n 0 dL_law_885 rfl rfl ?_
          refine r_iload_n 3 dL_law_886 rfl rfl ?_
          refine r_iconst dL_law_887 (by decide) (by decide) ?_
          refine r_iadd dL_law_888 h388 ?_
          refine r_sald rfl dL_law_889 h389 h390 ?_
          refine r_if_eq (tgt := 897) dL_law_890 (by decide) (fun c413 => ?_) (fun c413 => ?_)
          · replace h := h.1 c413
            refine r_iconst dL_law_897 (by decide) (by decide) ?_
            obtain ⟨h414, h⟩ := h
            obtain ⟨h415, h⟩ := h
            refine r_invV0 (M := mL_law) (As := [(0, (xs ((v3 + 1) : Int).toNat)), (0, 0)]) (st := [(0, x412)]) (X := v2) h ok_X12_hold cls12 im_X12_hold se_X12_hold ml_RL_109 dL_law_898 rfl h414 h415 (Nat.le_of_ble_eq_true rfl) rfl ?_
            rintro r K1 H416 ⟨rfl, x417, rfl, h⟩ -
            show Fr mL_law (d + 1) fc fs (some (L, xs)) 901 [(0, (2, (-2))), (1, (2, v1)), (2, (2, v2)), (3, (0, v3))] [(0, x417), (0, x412)] _ H416 _
            refine r_icmp_eq (tgt := 1008) dL_law_901 (by decide) (fun c418 => ?_) (fun c418 => ?_)
            · replace h := h.1 c418
              obtain ⟨h419, h⟩ := h
              refine r_iinc 3 dL_law_1008 (by decide) rfl h419 rfl ?_
              refine r_goto (tgt := 18) dL_law_1011 (by decide) ?_
              refine Fr.fewer [1, 2, 3, 0] rfl ?_
              exact h
            · replace h := h.2 c418
              refine r_iconst dL_law_904 (by decide) (by decide) ?_
              exact r_zret dL_law_905 rfl (Or.inl rfl) h
          · replace h := h.2 c413
            refine r_iconst dL_law_893 (by decide) (by decide) ?_
            refine r_goto (tgt := 898) dL_law_894 (by decide) ?_
            obtain ⟨h420, h⟩ := h
            obtain ⟨h421, h⟩ := h
            refine r_invV0 (M := mL_law) (As := [(0, (xs ((v3 + 1) : Int).toNat)), (0, 1)]) (st := [(0, x412)]) (X := v2) h ok_X12_hold cls12 im_X12_hold se_X12_hold ml_RL_109 dL_law_898 rfl h420 h421 (Nat.le_of_ble_eq_true rfl) rfl ?_
            rintro r K1 H422 ⟨rfl, x423, rfl, h⟩ -
            show Fr mL_law (d + 1) fc fs (some (L, xs)) 901 [(0, (2, (-2))), (1, (2, v1)), (2, (2, v2)), (3, (0, v3))] [(0, x423), (0, x412)] _ H422 _
            refine r_icmp_eq (tgt := 1008) dL_law_901 (by decide) (fun c424 => ?_) (fun c424 => ?_)
            · replace h := h.1 c424
              obtain ⟨h425, h⟩ := h
              refine r_iinc 3 dL_law_1008 (by decide) rfl h425 rfl ?_
              refine r_goto (tgt := 18) dL_law_1011 (by decide) ?_
              refine Fr.fewer [1, 2, 3, 0] rfl ?_
              exact h
            · replace h := h.2 c424
              refine r_iconst dL_law_904 (by decide) (by decide) ?_
              exact r_zret dL_law_905 rfl (Or.inl rfl) h
      · refine ⟨_, 906, rfl, by decide, ?_⟩
        replace h := h.2.2.2.2.2.2.2.2.2.2.2.2.2.2.2.2.2.2.2.2.2.2.1 hj
        refine r_aload_n 1 dL_law_906 rfl rfl ?_
        refine r_aload_n 0 dL_law_907 rfl rfl ?_
        refine r_iload_n 3 dL_law_908 rfl rfl ?_
        refine r_iconst dL_law_909 (by decide) (by decide) ?_
        obtain ⟨h426, h⟩ := h
        refine r_iadd dL_law_910 h426 ?_
        obtain ⟨h427, h⟩ := h
        obtain ⟨h428, h⟩ := h
        refine r_sald rfl dL_law_911 h427 h428 ?_
        refine r_aload_n 0 dL_law_912 rfl rfl ?_
        refine r_iload_n 3 dL_law_913 rfl rfl ?_
        refine r_iconst dL_law_914 (by decide) (by decide) ?_
        obtain ⟨h429, h⟩ := h
        refine r_iadd dL_law_915 h429 ?_
        obtain ⟨h430, h⟩ := h
        obtain ⟨h431, h⟩ := h
        refine r_sald rfl dL_law_916 h430 h431 ?_
        refine r_aload_n 0 dL_law_917 rfl rfl ?_
        refine r_iload_n 3 dL_law_918 rfl rfl ?_
        refine r_iconst dL_law_919 (by decide) (by decide) ?_
        obtain ⟨h432, h⟩ := h
        refine r_iadd dL_law_920 h432 ?_
        obtain ⟨h433, h⟩ := h
        obtain ⟨h434, h⟩ := h
        refine r_sald rfl dL_law_921 h433 h434 ?_
        obtain ⟨h435, h⟩ := h
        obtain ⟨h436, h⟩ := h
        refine r_invV0 (M := mL_law) (As := [(0, (xs ((v3 + 1) : Int).toNat)), (0, (xs ((v3 + 2) : Int).toNat)), (0, (xs ((v3 + 3) : Int).toNat))]) (st := []) (X := v1) h ok_X11_load cls11 im_X11_load se_X11_load ml_RL_110 dL_law_922 rfl h435 h436 (Nat.le_of_ble_eq_true rfl) rfl ?_
        rintro r K1 H437 ⟨rfl, x438, rfl, h⟩ -
        show Fr mL_law (d + 1) fc fs (some (L, xs)) 925 [(0, (2, (-2))), (1, (2, v1)), (2, (2, v2)), (3, (0, v3))] [(0, x438)] _ H437 _
        refine r_aload_n 2 dL_law_925 rfl rfl ?_
        refine r_aload_n 0 dL_law_926 rfl rfl ?_
        refine r_iload_n 3 dL_law_927 rfl rfl ?_
        refine r_iconst dL_law_928 (by decide) (by decide) ?_
        refine r_iadd dL_law_929 h426 ?_
        refine r_sald rfl dL_law_930 h427 h428 ?_
        refine r_aload_n 0 dL_law_931 rfl rfl ?_
        refine r_iload_n 3 dL_law_932 rfl rfl ?_
        refine r_iconst dL_law_933 (by decide) (by decide) ?_
        refine r_iadd dL_law_934 h429 ?_
        refine r_sald rfl dL_law_935 h430 h431 ?_
        refine r_aload_n 0 dL_law_936 rfl rfl ?_
        refine r_iload_n 3 dL_law_937 rfl rfl ?_
        refine r_iconst dL_law_938 (by decide) (by decide) ?_
        refine r_iadd dL_law_939 h432 ?_
        refine r_sald rfl dL_law_940 h433 h434 ?_
        obtain ⟨h439, h⟩ := h
        obtain ⟨h440, h⟩ := h
        refine r_invV0 (M := mL_law) (As := [(0, (xs ((v3 + 1) : Int).toNat)), (0, (xs ((v3 + 2) : Int).toNat)), (0, (xs ((v3 + 3) : Int).toNat))]) (st := [(0, x438)]) (X := v2) h ok_X12_load cls12 im_X12_load se_X12_load ml_RL_113 dL_law_941 rfl h439 h440 (Nat.le_of_ble_eq_true rfl) rfl ?_
        rintro r K1 H441 ⟨rfl, x442, rfl, h⟩ -
        show Fr mL_law (d + 1) fc fs (some (L, xs)) 944 [(0, (2, (-2))), (1, (2, v1)), (2, (2, v2)), (3, (0, v3))] [(0, x442), (0, x438)] _ H441 _
        refine r_icmp_eq (tgt := 1008) dL_law_944 (by decide) (fun c443 => ?_) (fun c443 => ?_)
        · replace h := h.1 c443
          obtain ⟨h444, h⟩ := h
          refine r_iinc 3 dL_law_1008 (by decide) rfl h444 rfl ?_
          refine r_goto (tgt := 18) dL_law_1011 (by decide) ?_
          refine Fr.fewer [1, 2, 3, 0] rfl ?_
          exact h
        · replace h := h.2 c443
          refine r_iconst dL_law_947 (by decide) (by decide) ?_
          exact r_zret dL_law_948 rfl (Or.inl rfl) h
      · refine ⟨_, 949, rfl, by decide, ?_⟩
        replace h := h.2.2.2.2.2.2.2.2.2.2.2.2.2.2.2.2.2.2.2.2.2.2.2.1 hj
        refine r_aload_n 1 dL_law_949 rfl rfl ?_
        refine r_aload_n 0 dL_law_950 rfl rfl ?_
        refine r_iload_n 3 dL_law_951 rfl rfl ?_
        refine r_iconst dL_law_952 (by decide) (by decide) ?_
        obtain ⟨h445, h⟩ := h
        refine r_iadd dL_law_953 h445 ?_
        obtain ⟨h446, h⟩ := h
        obtain ⟨h447, h⟩ := h
        refine r_sald rfl dL_law_954 h446 h447 ?_
        refine r_aload_n 0 dL_law_955 rfl rfl ?_
        refine r_iload_n 3 dL_law_956 rfl rfl ?_
        refine r_iconst dL_law_957 (by decide) (by decide) ?_
        obtain ⟨h448, h⟩ := h
        refine r_iadd dL_law_958 h448 ?_
        obtain ⟨h449, h⟩ := h
        obtain ⟨h450, h⟩ := h
        refine r_sald rfl dL_law_959 h449 h450 ?_
        obtain ⟨h451, h⟩ := h
        obtain ⟨h452, h⟩ := h
        refine r_invV0 (M := mL_law) (As := [(0, (xs ((v3 + 1) : Int).toNat)), (0, (xs ((v3 + 2) : Int).toNat))]) (st := []) (X := v1) h ok_X11_times cls11 im_X11_times se_X11_times ml_RL_114 dL_law_960 rfl h451 h452 (Nat.le_of_ble_eq_true rfl) rfl ?_
        rintro r K1 H453 ⟨rfl, x454, rfl, h⟩ -
        show Fr mL_law (d + 1) fc fs (some (L, xs)) 963 [(0, (2, (-2))), (1, (2, v1)), (2, (2, v2)), (3, (0, v3))] [(0, x454)] _ H453 _
        refine r_aload_n 2 dL_law_963 rfl rfl ?_
        refine r_aload_n 0 dL_law_964 rfl rfl ?_
        refine r_iload_n 3 dL_law_965 rfl rfl ?_
        refine r_iconst dL_law_966 (by decide) (by decide) ?_
        refine r_iadd dL_law_967 h445 ?_
        refine r_sald rfl dL_law_968 h446 h447 ?_
        refine r_aload_n 0 dL_law_969 rfl rfl ?_
        refine r_iload_n 3 dL_law_970 rfl rfl ?_
        refine r_iconst dL_law_971 (by decide) (by decide) ?_
        refine r_iadd dL_law_972 h448 ?_
        refine r_sald rfl dL_law_973 h449 h450 ?_
        obtain ⟨h455, h⟩ := h
        obtain ⟨h456, h⟩ := h
        refine r_invV0 (M := mL_law) (As := [(0, (xs ((v3 + 1) : Int).toNat)), (0, (xs ((v3 + 2) : Int).toNat))]) (st := [(0, x454)]) (X := v2) h ok_X12_times cls12 im_X12_times se_X12_times ml_RL_117 dL_law_974 rfl h455 h456 (Nat.le_of_ble_eq_true rfl) rfl ?_
        rintro r K1 H457 ⟨rfl, x458, rfl, h⟩ -
        show Fr mL_law (d + 1) fc fs (some (L, xs)) 977 [(0, (2, (-2))), (1, (2, v1)), (2, (2, v2)), (3, (0, v3))] [(0, x458), (0, x454)] _ H457 _
        refine r_icmp_eq (tgt := 1008) dL_law_977 (by decide) (fun c459 => ?_) (fun c459 => ?_)
        · replace h := h.1 c459
          obtain ⟨h460, h⟩ := h
          refine r_iinc 3 dL_law_1008 (by decide) rfl h460 rfl ?_
          refine r_goto (tgt := 18) dL_law_1011 (by decide) ?_
          refine Fr.fewer [1, 2, 3, 0] rfl ?_
          exact h
        · replace h := h.2 c459
          refine r_iconst dL_law_980 (by decide) (by decide) ?_
          exact r_zret dL_law_981 rfl (Or.inl rfl) h
      · refine ⟨_, 982, rfl, by decide, ?_⟩
        replace h := h.2.2.2.2.2.2.2.2.2.2.2.2.2.2.2.2.2.2.2.2.2.2.2.2.1 hj
        refine r_aload_n 1 dL_law_982 rfl rfl ?_
        obtain ⟨h461, h⟩ := h
        obtain ⟨h462, h⟩ := h
        refine r_invV0 (M := mL_law) (As := []) (st := []) (X := v1) h ok_X11_factor cls11 im_X11_factor se_X11_factor ml_RL_118 dL_law_983 rfl h461 h462 (Nat.le_of_ble_eq_true rfl) rfl ?_
        rintro r K1 H463 ⟨rfl, x464, rfl, h⟩ -
        show Fr mL_law (d + 1) fc fs (some (L, xs)) 986 [(0, (2, (-2))), (1, (2, v1)), (2, (2, v2)), (3, (0, v3))] [(0, x464)] _ H463 _
        refine r_aload_n 2 dL_law_986 rfl rfl ?_
        obtain ⟨h465, h⟩ := h
        obtain ⟨h466, h⟩ := h
        refine r_invV0 (M := mL_law) (As := []) (st := [(0, x464)]) (X := v2) h ok_X12_factor cls12 im_X12_factor se_X12_factor ml_RL_121 dL_law_987 rfl h465 h466 (Nat.le_of_ble_eq_true rfl) rfl ?_
        rintro r K1 H467 ⟨rfl, x468, rfl, h⟩ -
        show Fr mL_law (d + 1) fc fs (some (L, xs)) 990 [(0, (2, (-2))), (1, (2, v1)), (2, (2, v2)), (3, (0, v3))] [(0, x468), (0, x464)] _ H467 _
        refine r_icmp_eq (tgt := 1008) dL_law_990 (by decide) (fun c469 => ?_) (fun c469 => ?_)
        · replace h := h.1 c469
          obtain ⟨h470, h⟩ := h
          refine r_iinc 3 dL_law_1008 (by decide) rfl h470 rfl ?_
          refine r_goto (tgt := 18) dL_law_1011 (by decide) ?_
          refine Fr.fewer [1, 2, 3, 0] rfl ?_
          exact h
        · replace h := h.2 c469
          refine r_iconst dL_law_993 (by decide) (by decide) ?_
          exact r_zret dL_law_994 rfl (Or.inl rfl) h
      · refine ⟨_, 995, rfl, by decide, ?_⟩
        replace h := h.2.2.2.2.2.2.2.2.2.2.2.2.2.2.2.2.2.2.2.2.2.2.2.2.2.1 hj
        refine r_aload_n 1 dL_law_995 rfl rfl ?_
        obtain ⟨h471, h⟩ := h
        obtain ⟨h472, h⟩ := h
        refine r_invV0 (M := mL_law) (As := []) (st := []) (X := v1) h ok_X11_weakest cls11 im_X11_weakest se_X11_weakest ml_RL_122 dL_law_996 rfl h471 h472 (Nat.le_of_ble_eq_true rfl) rfl ?_
        rintro r K1 H473 ⟨rfl, x474, rfl, h⟩ -
        show Fr mL_law (d + 1) fc fs (some (L, xs)) 999 [(0, (2, (-2))), (1, (2, v1)), (2, (2, v2)), (3, (0, v3))] [(0, x474)] _ H473 _
        refine r_aload_n 2 dL_law_999 rfl rfl ?_
        obtain ⟨h475, h⟩ := h
        obtain ⟨h476, h⟩ := h
        refine r_invV0 (M := mL_law) (As := []) (st := [(0, x474)]) (X := v2) h ok_X12_weakest cls12 im_X12_weakest se_X12_weakest ml_RL_125 dL_law_1000 rfl h475 h476 (Nat.le_of_ble_eq_true rfl) rfl ?_
        rintro r K1 H477 ⟨rfl, x478, rfl, h⟩ -
        show Fr mL_law (d + 1) fc fs (some (L, xs)) 1003 [(0, (2, (-2))), (1, (2, v1)), (2, (2, v2)), (3, (0, v3))] [(0, x478), (0, x474)] _ H477 _
        refine r_icmp_eq (tgt := 1008) dL_law_1003 (by decide) (fun c479 => ?_) (fun c479 => ?_)
        · replace h := h.1 c479
          obtain ⟨h480, h⟩ := h
          refine r_iinc 3 dL_law_1008 (by decide) rfl h480 rfl ?_
          refine r_goto (tgt := 18) dL_law_1011 (by decide) ?_
          refine Fr.fewer [1, 2, 3, 0] rfl ?_
          exact h
        · replace h := h.2 c479
          refine r_iconst dL_law_1006 (by decide) (by decide) ?_
          exact r_zret dL_law_1007 rfl (Or.inl rfl) h
    · replace h := h.2.2.2.2.2.2.2.2.2.2.2.2.2.2.2.2.2.2.2.2.2.2.2.2.2.2 hj
      obtain ⟨h481, h⟩ := h
      refine r_iinc 3 dL_law_1008 (by decide) rfl h481 rfl ?_
      refine r_goto (tgt := 18) dL_law_1011 (by decide) ?_
      refine Fr.fewer [1, 2, 3, 0] rfl ?_
      exact h
