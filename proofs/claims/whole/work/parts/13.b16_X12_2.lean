/-! printed by gen/emit.py: what a walk from each cut point asks -/
def FX12_rod_0 (d : Nat) (K : Shp) (H : Mem) (q : Int → Mem → Prop) (v0 : Int) (v1 : Int) (v2 : Int) (v3 : Int) : Prop := Fr mX12_rod (d + 1) 0 0 none 0 [(0, (2, v0)), (1, (0, v1)), (2, (0, v2)), (3, (0, v3))] [] K H (qi K q)
set_option maxHeartbeats 4000000 in
set_option maxRecDepth 20000 in
theorem bX12_rod_0 {d : Nat} {K : Shp} {H : Mem} {q : Int → Mem → Prop} {v0 v1 v2 v3 : Int} (h : Ci mX12_isSection d [(0, v1)] K H (fun x2 H1 => ((¬ (x2 : Int) = 0 → (((v2 : Int) < 0 → ((0 : Int) ≤ v0) ∧ (K[(v0 : Int).toNat]? = some (12, 51)) ∧ Ci mX12_refuse d [(2, v0), (0, 2)] K H1 (fun x8 H7 => q x8 H7)) ∧ (¬ (v2 : Int) < 0 → ((¬ (v2 : Int) ≤ 100 → ((0 : Int) ≤ v0) ∧ (K[(v0 : Int).toNat]? = some (12, 51)) ∧ Ci mX12_refuse d [(2, v0), (0, 2)] K H1 (fun x13 H12 => q x13 H12)) ∧ ((v2 : Int) ≤ 100 → (((v3 : Int) < 0 → ((0 : Int) ≤ v0) ∧ (K[(v0 : Int).toNat]? = some (12, 51)) ∧ Ci mX12_refuse d [(2, v0), (0, 2)] K H1 (fun x18 H17 => q x18 H17)) ∧ (¬ (v3 : Int) < 0 → (((v3 : Int) ≤ 200 → ((0 : Int) ≤ v0) ∧ (K[(v0 : Int).toNat]? = some (12, 51)) ∧ ((0 : Int) ≤ (H1 (v0 : Int).toNat 13)) ∧ ∃ n23 : Nat, (K[((H1 (v0 : Int).toNat 13) : Int).toNat]? = some (20, n23)) ∧ ((0 : Int) ≤ v1) ∧ ((v1 : Int) < n23) ∧ ((¬ ((H1 ((H1 (v0 : Int).toNat 13) : Int).toNat (v1 : Int).toNat) : Int) = 6 → (inI (6 * v1)) ∧ (inI ((6 * v1) + (H1 ((H1 (v0 : Int).toNat 13) : Int).toNat (v1 : Int).toNat))) ∧ ((0 : Int) ≤ (H1 (v0 : Int).toNat 16)) ∧ ∃ n31 : Nat, (K[((H1 (v0 : Int).toNat 16) : Int).toNat]? = some (20, n31)) ∧ ((0 : Int) ≤ ((6 * v1) + (H1 ((H1 (v0 : Int).toNat 13) : Int).toNat (v1 : Int).toNat))) ∧ ((((6 * v1) + (H1 ((H1 (v0 : Int).toNat 13) : Int).toNat (v1 : Int).toNat)) : Int) < n31) ∧ ∀ H35 : Mem, H35 = upA H1 ((H1 (v0 : Int).toNat 16) : Int).toNat (up1 (H1 ((H1 (v0 : Int).toNat 16) : Int).toNat) (((6 * v1) + (H1 ((H1 (v0 : Int).toNat 13) : Int).toNat (v1 : Int).toNat)) : Int).toNat v2) → ((0 : Int) ≤ (H35 (v0 : Int).toNat 13)) ∧ ∃ n37 : Nat, (K[((H35 (v0 : Int).toNat 13) : Int).toNat]? = some (20, n37)) ∧ ((v1 : Int) < n37) ∧ (inI ((6 * v1) + (H35 ((H35 (v0 : Int).toNat 13) : Int).toNat (v1 : Int).toNat))) ∧ ((0 : Int) ≤ (H35 (v0 : Int).toNat 17)) ∧ ∃ n42 : Nat, (K[((H35 (v0 : Int).toNat 17) : Int).toNat]? = some (20, n42)) ∧ ((0 : Int) ≤ ((6 * v1) + (H35 ((H35 (v0 : Int).toNat 13) : Int).toNat (v1 : Int).toNat))) ∧ ((((6 * v1) + (H35 ((H35 (v0 : Int).toNat 13) : Int).toNat (v1 : Int).toNat)) : Int) < n42) ∧ ∀ H46 : Mem, H46 = upA H35 ((H35 (v0 : Int).toNat 17) : Int).toNat (up1 (H35 ((H35 (v0 : Int).toNat 17) : Int).toNat) (((6 * v1) + (H35 ((H35 (v0 : Int).toNat 13) : Int).toNat (v1 : Int).toNat)) : Int).toNat v3) → ((0 : Int) ≤ (H46 (v0 : Int).toNat 13)) ∧ ∃ n48 : Nat, (K[((H46 (v0 : Int).toNat 13) : Int).toNat]? = some (20, n48)) ∧ ((v1 : Int) < n48) ∧ (inI ((H46 ((H46 (v0 : Int).toNat 13) : Int).toNat (v1 : Int).toNat) + 1)) ∧ ∀ H52 : Mem, H52 = upA H46 ((H46 (v0 : Int).toNat 13) : Int).toNat (up1 (H46 ((H46 (v0 : Int).toNat 13) : Int).toNat) (v1 : Int).toNat ((H46 ((H46 (v0 : Int).toNat 13) : Int).toNat (v1 : Int).toNat) + 1)) → ∀ H53 : Mem, H53 = upA H52 (v0 : Int).toNat (up1 (H52 (v0 : Int).toNat) 0 0) → ((0 : Int) ≤ (H53 (v0 : Int).toNat 13)) ∧ ∃ n55 : Nat, (K[((H53 (v0 : Int).toNat 13) : Int).toNat]? = some (20, n55)) ∧ ((v1 : Int) < n55) ∧ (inI ((H53 ((H53 (v0 : Int).toNat 13) : Int).toNat (v1 : Int).toNat) - 1)) ∧ q ((H53 ((H53 (v0 : Int).toNat 13) : Int).toNat (v1 : Int).toNat) - 1) H53) ∧ (((H1 ((H1 (v0 : Int).toNat 13) : Int).toNat (v1 : Int).toNat) : Int) = 6 → Ci mX12_refuse d [(2, v0), (0, 3)] K H1 (fun x60 H59 => q x60 H59)))) ∧ (¬ (v3 : Int) ≤ 200 → ((0 : Int) ≤ v0) ∧ (K[(v0 : Int).toNat]? = some (12, 51)) ∧ Ci mX12_refuse d [(2, v0), (0, 2)] K H1 (fun x64 H63 => q x64 H63)))))))))) ∧ ((x2 : Int) = 0 → ((0 : Int) ≤ v0) ∧ (K[(v0 : Int).toNat]? = some (12, 51)) ∧ Ci mX12_refuse d [(2, v0), (0, 1)] K H1 (fun x68 H67 => q x68 H67))))) : FX12_rod_0 d K H q (v0) (v1) (v2) (v3) := by
  unfold FX12_rod_0
  refine r_iload_n 1 dX12_rod_0 rfl rfl ?_
  refine r_invS (M := mX12_rod) (As := [(0, v1)]) (st := []) (mc := 0) (ms := 0) (fc := 0) (fs := 0) h ok_X12_isSection sm_X12_isSection ml_RX12_177 dX12_rod_1 rfl (Nat.le_of_ble_eq_true rfl) rfl ?_
  rintro r K1 H1 ⟨rfl, x2, rfl, h⟩ -
  show Fr mX12_rod (d + 1) 0 0 none 4 [(0, (2, v0)), (1, (0, v1)), (2, (0, v2)), (3, (0, v3))] [(0, x2)] _ H1 _
  refine r_if_ne (tgt := 13) dX12_rod_4 (by decide) (fun c3 => ?_) (fun c3 => ?_)
  · replace h := h.1 c3
    refine r_iload_n 2 dX12_rod_13 rfl rfl ?_
    refine r_if_lt (tgt := 34) dX12_rod_14 (by decide) (fun c4 => ?_) (fun c4 => ?_)
    · replace h := h.1 c4
      refine r_aload_n 0 dX12_rod_34 rfl rfl ?_
      refine r_iconst dX12_rod_35 (by decide) (by decide) ?_
      obtain ⟨h5, h⟩ := h
      obtain ⟨h6, h⟩ := h
      refine r_invV (M := mX12_rod) (As := [(0, 2)]) (st := []) (X := v0) (mc := 0) (ms := 0) (fc := 0) (fs := 0) h ok_X12_refuse cls12 im_X12_refuse se_X12_refuse ml_RX12_184 dX12_rod_36 rfl h5 h6 (Nat.le_of_ble_eq_true rfl) rfl ?_
      rintro r K1 H7 ⟨rfl, x8, rfl, h⟩ -
      show Fr mX12_rod (d + 1) 0 0 none 39 [(0, (2, v0)), (1, (0, v1)), (2, (0, v2)), (3, (0, v3))] [(0, x8)] _ H7 _
      exact r_iret dX12_rod_39 rfl ⟨rfl, _, rfl, h⟩
    · replace h := h.2 c4
      refine r_iload_n 2 dX12_rod_17 rfl rfl ?_
      refine r_bipush dX12_rod_18 (by decide) (by decide) ?_
      refine r_icmp_gt (tgt := 34) dX12_rod_20 (by decide) (fun c9 => ?_) (fun c9 => ?_)
      · replace h := h.1 c9
        refine r_aload_n 0 dX12_rod_34 rfl rfl ?_
        refine r_iconst dX12_rod_35 (by decide) (by decide) ?_
        obtain ⟨h10, h⟩ := h
        obtain ⟨h11, h⟩ := h
        refine r_invV (M := mX12_rod) (As := [(0, 2)]) (st := []) (X := v0) (mc := 0) (ms := 0) (fc := 0) (fs := 0) h ok_X12_refuse cls12 im_X12_refuse se_X12_refuse ml_RX12_184 dX12_rod_36 rfl h10 h11 (Nat.le_of_ble_eq_true rfl) rfl ?_
        rintro r K1 H12 ⟨rfl, x13, rfl, h⟩ -
        show Fr mX12_rod (d + 1) 0 0 none 39 [(0, (2, v0)), (1, (0, v1)), (2, (0, v2)), (3, (0, v3))] [(0, x13)] _ H12 _
        exact r_iret dX12_rod_39 rfl ⟨rfl, _, rfl, h⟩
      · replace h := h.2 c9
        refine r_iload_n 3 dX12_rod_23 rfl rfl ?_
        refine r_if_lt (tgt := 34) dX12_rod_24 (by decide) (fun c14 => ?_) (fun c14 => ?_)
        · replace h := h.1 c14
          refine r_aload_n 0 dX12_rod_34 rfl rfl ?_
          refine r_iconst dX12_rod_35 (by decide) (by decide) ?_
          obtain ⟨h15, h⟩ := h
          obtain ⟨h16, h⟩ := h
          refine r_invV (M := mX12_rod) (As := [(0, 2)]) (st := []) (X := v0) (mc := 0) (ms := 0) (fc := 0) (fs := 0) h ok_X12_refuse cls12 im_X12_refuse se_X12_refuse ml_RX12_184 dX12_rod_36 rfl h15 h16 (Nat.le_of_ble_eq_true rfl) rfl ?_
          rintro r K1 H17 ⟨rfl, x18, rfl, h⟩ -
          show Fr mX12_rod (d + 1) 0 0 none 39 [(0, (2, v0)), (1, (0, v1)), (2, (0, v2)), (3, (0, v3))] [(0, x18)] _ H17 _
          exact r_iret dX12_rod_39 rfl ⟨rfl, _, rfl, h⟩
        · replace h := h.2 c14
          refine r_iload_n 3 dX12_rod_27 rfl rfl ?_
          refine r_sipush dX12_rod_28 (by decide) (by decide) ?_
          refine r_icmp_le (tgt := 40) dX12_rod_31 (by decide) (fun c19 => ?_) (fun c19 => ?_)
          · replace h := h.1 c19
            refine r_aload_n 0 dX12_rod_40 rfl rfl ?_
            obtain ⟨h20, h⟩ := h
            obtain ⟨h21, h⟩ := h
            refine r_getf cls12 13 dX12_rod_41 (by decide) fl_RX12_34 rfl h20 h21 ?_
            refine r_iload_n 1 dX12_rod_44 rfl rfl ?_
            obtain ⟨h22, h⟩ := h
            obtain ⟨n23, h⟩ := h
            obtain ⟨h24, h⟩ := h
            obtain ⟨h25, h⟩ := h
            obtain ⟨h26, h⟩ := h
            refine r_iald n23 dX12_rod_45 h22 h24 h25 h26 ?_
            refine r_bipush dX12_rod_46 (by decide) (by decide) ?_
            refine r_icmp_ne (tgt := 57) dX12_rod_48 (by decide) (fun c27 => ?_) (fun c27 => ?_)
            · replace h := h.1 c27
              refine r_aload_n 0 dX12_rod_57 rfl rfl ?_
              refine r_getf cls12 16 dX12_rod_58 (by decide) fl_RX12_43 rfl h20 h21 ?_
              refine r_bipush dX12_rod_61 (by decide) (by decide) ?_
              refine r_iload_n 1 dX12_rod_63 rfl rfl ?_
              obtain ⟨h28, h⟩ := h
              refine r_imul dX12_rod_64 h28 ?_
              refine r_aload_n 0 dX12_rod_65 rfl rfl ?_
              refine r_getf cls12 13 dX12_rod_66 (by decide) fl_RX12_34 rfl h20 h21 ?_
              refine r_iload_n 1 dX12_rod_69 rfl rfl ?_
              refine r_iald n23 dX12_rod_70 h22 h24 h25 h26 ?_
              obtain ⟨h29, h⟩ := h
              refine r_iadd dX12_rod_71 h29 ?_
              refine r_iload_n 2 dX12_rod_72 rfl rfl ?_
              obtain ⟨h30, h⟩ := h
              obtain ⟨n31, h⟩ := h
              obtain ⟨h32, h⟩ := h
              obtain ⟨h33, h⟩ := h
              obtain ⟨h34, h⟩ := h
              refine r_iast n31 dX12_rod_73 h30 h32 h33 h34 ?_
              replace h := h _ rfl
              generalize upA H1 ((H1 (v0 : Int).toNat 16) : Int).toNat (up1 (H1 ((H1 (v0 : Int).toNat 16) : Int).toNat) (((6 * v1) + (H1 ((H1 (v0 : Int).toNat 13) : Int).toNat (v1 : Int).toNat)) : Int).toNat v2) = H35 at h ⊢
              refine r_aload_n 0 dX12_rod_74 rfl rfl ?_
              refine r_getf cls12 17 dX12_rod_75 (by decide) fl_RX12_46 rfl h20 h21 ?_
              refine r_bipush dX12_rod_78 (by decide) (by decide) ?_
              refine r_iload_n 1 dX12_rod_80 rfl rfl ?_
              refine r_imul dX12_rod_81 h28 ?_
              refine r_aload_n 0 dX12_rod_82 rfl rfl ?_
              refine r_getf cls12 13 dX12_rod_83 (by decide) fl_RX12_34 rfl h20 h21 ?_
              refine r_iload_n 1 dX12_rod_86 rfl rfl ?_
              obtain ⟨h36, h⟩ := h
              obtain ⟨n37, h⟩ := h
              obtain ⟨h38, h⟩ := h
              obtain ⟨h39, h⟩ := h
              refine r_iald n37 dX12_rod_87 h36 h38 h25 h39 ?_
              obtain ⟨h40, h⟩ := h
              refine r_iadd dX12_rod_88 h40 ?_
              refine r_iload_n 3 dX12_rod_89 rfl rfl ?_
              obtain ⟨h41, h⟩ := h
              obtain ⟨n42, h⟩ := h
              obtain ⟨h43, h⟩ := h
              obtain ⟨h44, h⟩ := h
              obtain ⟨h45, h⟩ := h
              refine r_iast n42 dX12_rod_90 h41 h43 h44 h45 ?_
              replace h := h _ rfl
              generalize upA H35 ((H35 (v0 : Int).toNat 17) : Int).toNat (up1 (H35 ((H35 (v0 : Int).toNat 17) : Int).toNat) (((6 * v1) + (H35 ((H35 (v0 : Int).toNat 13) : Int).toNat (v1 : Int).toNat)) : Int).toNat v3) = H46 at h ⊢
              refine r_aload_n 0 dX12_rod_91 rfl rfl ?_
              refine r_getf cls12 13 dX12_rod_92 (by decide) fl_RX12_34 rfl h20 h21 ?_
              refine r_iload_n 1 dX12_rod_95 rfl rfl ?_
              refine r_dup2 dX12_rod_96 (show (0 : Nat) ≠ 1 by decide) (show (2 : Nat) ≠ 1 by decide) ?_
              obtain ⟨h47, h⟩ := h
              obtain ⟨n48, h⟩ := h
              obtain ⟨h49, h⟩ := h
              obtain ⟨h50, h⟩ := h
              refine r_iald n48 dX12_rod_97 h47 h49 h25 h50 ?_
              refine r_iconst dX12_rod_98 (by decide) (by decide) ?_
              obtain ⟨h51, h⟩ := h
              refine r_iadd dX12_rod_99 h51 ?_
              refine r_iast n48 dX12_rod_100 h47 h49 h25 h50 ?_
              replace h := h _ rfl
              generalize upA H46 ((H46 (v0 : Int).toNat 13) : Int).toNat (up1 (H46 ((H46 (v0 : Int).toNat 13) : Int).toNat) (v1 : Int).toNat ((H46 ((H46 (v0 : Int).toNat 13) : Int).toNat (v1 : Int).toNat) + 1)) = H52 at h ⊢
              refine r_aload_n 0 dX12_rod_101 rfl rfl ?_
              refine r_iconst dX12_rod_102 (by decide) (by decide) ?_
              refine r_putf cls12 0 dX12_rod_103 (by decide) rfl fl_RX12_89 rfl h20 h21 (fun o => o) ?_
              replace h := h _ rfl
              generalize upA H52 (v0 : Int).toNat (up1 (H52 (v0 : Int).toNat) 0 0) = H53 at h ⊢
              refine r_aload_n 0 dX12_rod_106 rfl rfl ?_
              refine r_getf cls12 13 dX12_rod_107 (by decide) fl_RX12_34 rfl h20 h21 ?_
              refine r_iload_n 1 dX12_rod_110 rfl rfl ?_
              obtain ⟨h54, h⟩ := h
              obtain ⟨n55, h⟩ := h
              obtain ⟨h56, h⟩ := h
              obtain ⟨h57, h⟩ := h
              refine r_iald n55 dX12_rod_111 h54 h56 h25 h57 ?_
              refine r_iconst dX12_rod_112 (by decide) (by decide) ?_
              obtain ⟨h58, h⟩ := h
              refine r_isub dX12_rod_113 h58 ?_
              exact r_iret dX12_rod_114 rfl ⟨rfl, _, rfl, h⟩
            · replace h := h.2 c27
              refine r_aload_n 0 dX12_rod_51 rfl rfl ?_
              refine r_iconst dX12_rod_52 (by decide) (by decide) ?_
              refine r_invV (M := mX12_rod) (As := [(0, 3)]) (st := []) (X := v0) (mc := 0) (ms := 0) (fc := 0) (fs := 0) h ok_X12_refuse cls12 im_X12_refuse se_X12_refuse ml_RX12_184 dX12_rod_53 rfl h20 h21 (Nat.le_of_ble_eq_true rfl) rfl ?_
              rintro r K1 H59 ⟨rfl, x60, rfl, h⟩ -
              show Fr mX12_rod (d + 1) 0 0 none 56 [(0, (2, v0)), (1, (0, v1)), (2, (0, v2)), (3, (0, v3))] [(0, x60)] _ H59 _
              exact r_iret dX12_rod_56 rfl ⟨rfl, _, rfl, h⟩
          · replace h := h.2 c19
            refine r_aload_n 0 dX12_rod_34 rfl rfl ?_
            refine r_iconst dX12_rod_35 (by decide) (by decide) ?_
            obtain ⟨h61, h⟩ := h
            obtain ⟨h62, h⟩ := h
            refine r_invV (M := mX12_rod) (As := [(0, 2)]) (st := []) (X := v0) (mc := 0) (ms := 0) (fc := 0) (fs := 0) h ok_X12_refuse cls12 im_X12_refuse se_X12_refuse ml_RX12_184 dX12_rod_36 rfl h61 h62 (Nat.le_of_ble_eq_true rfl) rfl ?_
            rintro r K1 H63 ⟨rfl, x64, rfl, h⟩ -
            show Fr mX12_rod (d + 1) 0 0 none 39 [(0, (2, v0)), (1, (0, v1)), (2, (0, v2)), (3, (0, v3))] [(0, x64)] _ H63 _
            exact r_iret dX12_rod_39 rfl ⟨rfl, _, rfl, h⟩
  · replace h := h.2 c3
    refine r_aload_n 0 dX12_rod_7 rfl rfl ?_
    refine r_iconst dX12_rod_8 (by decide) (by decide) ?_
    obtain ⟨h65, h⟩ := h
    obtain ⟨h66, h⟩ := h
    refine r_invV (M := mX12_rod) (As := [(0, 1)]) (st := []) (X := v0) (mc := 0) (ms := 0) (fc := 0) (fs := 0) h ok_X12_refuse cls12 im_X12_refuse se_X12_refuse ml_RX12_184 dX12_rod_9 rfl h65 h66 (Nat.le_of_ble_eq_true rfl) rfl ?_
    rintro r K1 H67 ⟨rfl, x68, rfl, h⟩ -
    show Fr mX12_rod (d + 1) 0 0 none 12 [(0, (2, v0)), (1, (0, v1)), (2, (0, v2)), (3, (0, v3))] [(0, x68)] _ H67 _
    exact r_iret dX12_rod_12 rfl ⟨rfl, _, rfl, h⟩
set_option maxHeartbeats 4000000 in
set_option maxRecDepth 20000 in
theorem eX12_rod {d : Nat} {K : Shp} {H : Mem} {q : Int → Mem → Prop} {v0 v1 v2 v3 : Int} (h : inI v1 → inI v2 → inI v3 → Rng K H → FX12_rod_0 d K H q v0 v1 v2 v3) : Ci mX12_rod (d + 1) [(2, v0), (0, v1), (0, v2), (0, v3)] K H q := Call.of rfl (Nat.le_of_ble_eq_true rfl) (fun o r => h (o (0, v1) (by simp)) (o (0, v2) (by simp)) (o (0, v3) (by simp)) r)
def FX12_isRod_0 (d : Nat) (K : Shp) (H : Mem) (q : Int → Mem → Prop) (v0 : Int) (v1 : Int) (v2 : Int) : Prop := Fr mX12_isRod (d + 1) 0 0 none 0 [(0, (2, v0)), (1, (0, v1)), (2, (0, v2))] [] K H (qi K q)
set_option maxHeartbeats 4000000 in
set_option maxRecDepth 20000 in
theorem bX12_isRod_0 {d : Nat} {K : Shp} {H : Mem} {q : Int → Mem → Prop} {v0 v1 v2 : Int} (h : Ci mX12_isSection d [(0, v1)] K H (fun x2 H1 => (((x2 : Int) = 0 → q 0 H1) ∧ (¬ (x2 : Int) = 0 → (((v2 : Int) < 0 → q 0 H1) ∧ (¬ (v2 : Int) < 0 → ((0 : Int) ≤ v0) ∧ (K[(v0 : Int).toNat]? = some (12, 51)) ∧ ((0 : Int) ≤ (H1 (v0 : Int).toNat 13)) ∧ ∃ n8 : Nat, (K[((H1 (v0 : Int).toNat 13) : Int).toNat]? = some (20, n8)) ∧ ((0 : Int) ≤ v1) ∧ ((v1 : Int) < n8) ∧ ((¬ (v2 : Int) < (H1 ((H1 (v0 : Int).toNat 13) : Int).toNat (v1 : Int).toNat) → q 0 H1) ∧ ((v2 : Int) < (H1 ((H1 (v0 : Int).toNat 13) : Int).toNat (v1 : Int).toNat) → q 1 H1)))))))) : FX12_isRod_0 d K H q (v0) (v1) (v2) := by
  unfold FX12_isRod_0
  refine r_iload_n 1 dX12_isRod_0 rfl rfl ?_
  refine r_invS (M := mX12_isRod) (As := [(0, v1)]) (st := []) (mc := 0) (ms := 0) (fc := 0) (fs := 0) h ok_X12_isSection sm_X12_isSection ml_RX12_177 dX12_isRod_1 rfl (Nat.le_of_ble_eq_true rfl) rfl ?_
  rintro r K1 H1 ⟨rfl, x2, rfl, h⟩ -
  show Fr mX12_isRod (d + 1) 0 0 none 4 [(0, (2, v0)), (1, (0, v1)), (2, (0, v2))] [(0, x2)] _ H1 _
  refine r_if_eq (tgt := 25) dX12_isRod_4 (by decide) (fun c3 => ?_) (fun c3 => ?_)
  · replace h := h.1 c3
    refine r_iconst dX12_isRod_25 (by decide) (by decide) ?_
    exact r_zret dX12_isRod_26 rfl (Or.inl rfl) ⟨rfl, _, rfl, h⟩
  · replace h := h.2 c3
    refine r_iload_n 2 dX12_isRod_7 rfl rfl ?_
    refine r_if_lt (tgt := 25) dX12_isRod_8 (by decide) (fun c4 => ?_) (fun c4 => ?_)
    · replace h := h.1 c4
      refine r_iconst dX12_isRod_25 (by decide) (by decide) ?_
      exact r_zret dX12_isRod_26 rfl (Or.inl rfl) ⟨rfl, _, rfl, h⟩
    · replace h := h.2 c4
      refine r_iload_n 2 dX12_isRod_11 rfl rfl ?_
      refine r_aload_n 0 dX12_isRod_12 rfl rfl ?_
      obtain ⟨h5, h⟩ := h
      obtain ⟨h6, h⟩ := h
      refine r_getf cls12 13 dX12_isRod_13 (by decide) fl_RX12_34 rfl h5 h6 ?_
      refine r_iload_n 1 dX12_isRod_16 rfl rfl ?_
      obtain ⟨h7, h⟩ := h
      obtain ⟨n8, h⟩ := h
      obtain ⟨h9, h⟩ := h
      obtain ⟨h10, h⟩ := h
      obtain ⟨h11, h⟩ := h
      refine r_iald n8 dX12_isRod_17 h7 h9 h10 h11 ?_
      refine r_icmp_ge (tgt := 25) dX12_isRod_18 (by decide) (fun c12 => ?_) (fun c12 => ?_)
      · replace h := h.1 c12
        refine r_iconst dX12_isRod_25 (by decide) (by decide) ?_
        exact r_zret dX12_isRod_26 rfl (Or.inl rfl) ⟨rfl, _, rfl, h⟩
      · replace h := h.2 c12
        refine r_iconst dX12_isRod_21 (by decide) (by decide) ?_
        refine r_goto (tgt := 26) dX12_isRod_22 (by decide) ?_
        exact r_zret dX12_isRod_26 rfl (Or.inr rfl) ⟨rfl, _, rfl, h⟩
set_option maxHeartbeats 4000000 in
set_option maxRecDepth 20000 in
theorem eX12_isRod {d : Nat} {K : Shp} {H : Mem} {q : Int → Mem → Prop} {v0 v1 v2 : Int} (h : inI v1 → inI v2 → Rng K H → FX12_isRod_0 d K H q v0 v1 v2) : Ci mX12_isRod (d + 1) [(2, v0), (0, v1), (0, v2)] K H q := Call.of rfl (Nat.le_of_ble_eq_true rfl) (fun o r => h (o (0, v1) (by simp)) (o (0, v2) (by simp)) r)
def FX12_change_0 (d : Nat) (K : Shp) (H : Mem) (q : Int → Mem → Prop) (v0 : Int) (v1 : Int) (v2 : Int) (v3 : Int) : Prop := Fr mX12_change (d + 1) 0 0 none 0 [(0, (2, v0)), (1, (0, v1)), (2, (0, v2)), (3, (0, v3))] [] K H (qi K q)
set_option maxHeartbeats 4000000 in
set_option maxRecDepth 20000 in
theorem bX12_change_0 {d : Nat} {K : Shp} {H : Mem} {q : Int → Mem → Prop} {v0 v1 v2 v3 : Int} (h : ((0 : Int) ≤ v0) ∧ (K[(v0 : Int).toNat]? = some (12, 51)) ∧ Ci mX12_isRod d [(2, v0), (0, v1), (0, v2)] K H (fun x4 H3 => ((¬ (x4 : Int) = 0 → (((v3 : Int) < 0 → Ci mX12_is d [(2, v0), (0, 2)] K H3 (fun x8 H7 => ((x8 : Int) = 0 ∨ (x8 : Int) = 1) ∧ q x8 H7)) ∧ (¬ (v3 : Int) < 0 → (((v3 : Int) ≤ 200 → (inI (6 * v1)) ∧ (inI ((6 * v1) + v2)) ∧ ((0 : Int) ≤ (H3 (v0 : Int).toNat 17)) ∧ ∃ n14 : Nat, (K[((H3 (v0 : Int).toNat 17) : Int).toNat]? = some (20, n14)) ∧ ((0 : Int) ≤ ((6 * v1) + v2)) ∧ ((((6 * v1) + v2) : Int) < n14) ∧ ∀ H18 : Mem, H18 = upA H3 ((H3 (v0 : Int).toNat 17) : Int).toNat (up1 (H3 ((H3 (v0 : Int).toNat 17) : Int).toNat) (((6 * v1) + v2) : Int).toNat v3) → Ci mX12_is d [(2, v0), (0, 0)] K H18 (fun x20 H19 => ((x20 : Int) = 0 ∨ (x20 : Int) = 1) ∧ q x20 H19)) ∧ (¬ (v3 : Int) ≤ 200 → Ci mX12_is d [(2, v0), (0, 2)] K H3 (fun x23 H22 => ((x23 : Int) = 0 ∨ (x23 : Int) = 1) ∧ q x23 H22)))))) ∧ ((x4 : Int) = 0 → Ci mX12_is d [(2, v0), (0, 1)] K H3 (fun x26 H25 => ((x26 : Int) = 0 ∨ (x26 : Int) = 1) ∧ q x26 H25))))) : FX12_change_0 d K H q (v0) (v1) (v2) (v3) := by
  unfold FX12_change_0
  refine r_aload_n 0 dX12_change_0 rfl rfl ?_
  refine r_iload_n 1 dX12_change_1 rfl rfl ?_
  refine r_iload_n 2 dX12_change_2 rfl rfl ?_
  obtain ⟨h1, h⟩ := h
  obtain ⟨h2, h⟩ := h
  refine r_invV (M := mX12_change) (As := [(0, v1), (0, v2)]) (st := []) (X := v0) (mc := 0) (ms := 0) (fc := 0) (fs := 0) h ok_X12_isRod cls12 im_X12_isRod se_X12_isRod ml_RX12_187 dX12_change_3 rfl h1 h2 (Nat.le_of_ble_eq_true rfl) rfl ?_
  rintro r K1 H3 ⟨rfl, x4, rfl, h⟩ -
  show Fr mX12_change (d + 1) 0 0 none 6 [(0, (2, v0)), (1, (0, v1)), (2, (0, v2)), (3, (0, v3))] [(0, x4)] _ H3 _
  refine r_if_ne (tgt := 15) dX12_change_6 (by decide) (fun c5 => ?_) (fun c5 => ?_)
  · replace h := h.1 c5
    refine r_iload_n 3 dX12_change_15 rfl rfl ?_
    refine r_if_lt (tgt := 26) dX12_change_16 (by decide) (fun c6 => ?_) (fun c6 => ?_)
    · replace h := h.1 c6
      refine r_aload_n 0 dX12_change_26 rfl rfl ?_
      refine r_iconst dX12_change_27 (by decide) (by decide) ?_
      refine r_invV (M := mX12_change) (As := [(0, 2)]) (st := []) (X := v0) (mc := 0) (ms := 0) (fc := 0) (fs := 0) h ok_X12_is cls12 im_X12_is se_X12_is ml_RX12_181 dX12_change_28 rfl h1 h2 (Nat.le_of_ble_eq_true rfl) rfl ?_
      rintro r K1 H7 ⟨rfl, x8, rfl, h⟩ -
      show Fr mX12_change (d + 1) 0 0 none 31 [(0, (2, v0)), (1, (0, v1)), (2, (0, v2)), (3, (0, v3))] [(0, x8)] _ H7 _
      obtain ⟨h9, h⟩ := h
      exact r_zret dX12_change_31 rfl h9 ⟨rfl, _, rfl, h⟩
    · replace h := h.2 c6
      refine r_iload_n 3 dX12_change_19 rfl rfl ?_
      refine r_sipush dX12_change_20 (by decide) (by decide) ?_
      refine r_icmp_le (tgt := 32) dX12_change_23 (by decide) (fun c10 => ?_) (fun c10 => ?_)
      · replace h := h.1 c10
        refine r_aload_n 0 dX12_change_32 rfl rfl ?_
        refine r_getf cls12 17 dX12_change_33 (by decide) fl_RX12_46 rfl h1 h2 ?_
        refine r_bipush dX12_change_36 (by decide) (by decide) ?_
        refine r_iload_n 1 dX12_change_38 rfl rfl ?_
        obtain ⟨h11, h⟩ := h
        refine r_imul dX12_change_39 h11 ?_
        refine r_iload_n 2 dX12_change_40 rfl rfl ?_
        obtain ⟨h12, h⟩ := h
        refine r_iadd dX12_change_41 h12 ?_
        refine r_iload_n 3 dX12_change_42 rfl rfl ?_
        obtain ⟨h13, h⟩ := h
        obtain ⟨n14, h⟩ := h
        obtain ⟨h15, h⟩ := h
        obtain ⟨h16, h⟩ := h
        obtain ⟨h17, h⟩ := h
        refine r_iast n14 dX12_change_43 h13 h15 h16 h17 ?_
        replace h := h _ rfl
        generalize upA H3 ((H3 (v0 : Int).toNat 17) : Int).toNat (up1 (H3 ((H3 (v0 : Int).toNat 17) : Int).toNat) (((6 * v1) + v2) : Int).toNat v3) = H18 at h ⊢
        refine r_aload_n 0 dX12_change_44 rfl rfl ?_
        refine r_iconst dX12_change_45 (by decide) (by decide) ?_
        refine r_invV (M := mX12_change) (As := [(0, 0)]) (st := []) (X := v0) (mc := 0) (ms := 0) (fc := 0) (fs := 0) h ok_X12_is cls12 im_X12_is se_X12_is ml_RX12_181 dX12_change_46 rfl h1 h2 (Nat.le_of_ble_eq_true rfl) rfl ?_
        rintro r K1 H19 ⟨rfl, x20, rfl, h⟩ -
        show Fr mX12_change (d + 1) 0 0 none 49 [(0, (2, v0)), (1, (0, v1)), (2, (0, v2)), (3, (0, v3))] [(0, x20)] _ H19 _
        obtain ⟨h21, h⟩ := h
        exact r_zret dX12_change_49 rfl h21 ⟨rfl, _, rfl, h⟩
      · replace h := h.2 c10
        refine r_aload_n 0 dX12_change_26 rfl rfl ?_
        refine r_iconst dX12_change_27 (by decide) (by decide) ?_
        refine r_invV (M := mX12_change) (As := [(0, 2)]) (st := []) (X := v0) (mc := 0) (ms := 0) (fc := 0) (fs := 0) h ok_X12_is cls12 im_X12_is se_X12_is ml_RX12_181 dX12_change_28 rfl h1 h2 (Nat.le_of_ble_eq_true rfl) rfl ?_
        rintro r K1 H22 ⟨rfl, x23, rfl, h⟩ -
        show Fr mX12_change (d + 1) 0 0 none 31 [(0, (2, v0)), (1, (0, v1)), (2, (0, v2)), (3, (0, v3))] [(0, x23)] _ H22 _
        obtain ⟨h24, h⟩ := h
        exact r_zret dX12_change_31 rfl h24 ⟨rfl, _, rfl, h⟩
  · replace h := h.2 c5
    refine r_aload_n 0 dX12_change_9 rfl rfl ?_
    refine r_iconst dX12_change_10 (by decide) (by decide) ?_
    refine r_invV (M := mX12_change) (As := [(0, 1)]) (st := []) (X := v0) (mc := 0) (ms := 0) (fc := 0) (fs := 0) h ok_X12_is cls12 im_X12_is se_X12_is ml_RX12_181 dX12_change_11 rfl h1 h2 (Nat.le_of_ble_eq_true rfl) rfl ?_
    rintro r K1 H25 ⟨rfl, x26, rfl, h⟩ -
    show Fr mX12_change (d + 1) 0 0 none 14 [(0, (2, v0)), (1, (0, v1)), (2, (0, v2)), (3, (0, v3))] [(0, x26)] _ H25 _
    obtain ⟨h27, h⟩ := h
    exact r_zret dX12_change_14 rfl h27 ⟨rfl, _, rfl, h⟩
set_option maxHeartbeats 4000000 in
set_option maxRecDepth 20000 in
theorem eX12_change {d : Nat} {K : Shp} {H : Mem} {q : Int → Mem → Prop} {v0 v1 v2 v3 : Int} (h : inI v1 → inI v2 → inI v3 → Rng K H → FX12_change_0 d K H q v0 v1 v2 v3) : Ci mX12_change (d + 1) [(2, v0), (0, v1), (0, v2), (0, v3)] K H q := Call.of rfl (Nat.le_of_ble_eq_true rfl) (fun o r => h (o (0, v1) (by simp)) (o (0, v2) (by simp)) (o (0, v3) (by simp)) r)
def FX12_asTold_0 (d : Nat) (K : Shp) (H : Mem) (q : Mem → Prop) (v0 : Int) (v1 : Int) : Prop := Fr mX12_asTold d 0 0 none 0 [(0, (2, v0)), (1, (0, v1))] [] K H (qv K q)
def FX12_asTold_2 (d : Nat) (K : Shp) (H : Mem) (q : Mem → Prop) (v0 : Int) (v1 : Int) (v2 : Int) : Prop := Fr mX12_asTold d 0 0 none 2 [(0, (2, v0)), (1, (0, v1)), (2, (0, v2))] [] K H (qv K q)
set_option maxHeartbeats 4000000 in
set_option maxRecDepth 20000 in
theorem bX12_asTold_0 {d : Nat} {K : Shp} {H : Mem} {q : Mem → Prop} {v0 v1 : Int} (h : FX12_asTold_2 d K H q (v0) (v1) (0)) : FX12_asTold_0 d K H q (v0) (v1) := by
  unfold FX12_asTold_0
  refine r_iconst dX12_asTold_0 (by decide) (by decide) ?_
  refine r_istore_n dX12_asTold_1 rfl (by decide) rfl ?_
  refine Fr.fewer [1, 2, 0] rfl ?_
  exact h
set_option maxHeartbeats 4000000 in
set_option maxRecDepth 20000 in
theorem bX12_asTold_2 {d : Nat} {K : Shp} {H : Mem} {q : Mem → Prop} {v0 v1 v2 : Int} (h : ((¬ (v2 : Int) < 6 → q H) ∧ ((v2 : Int) < 6 → ((0 : Int) ≤ v0) ∧ (K[(v0 : Int).toNat]? = some (12, 51)) ∧ ((0 : Int) ≤ (H (v0 : Int).toNat 13)) ∧ ∃ n5 : Nat, (K[((H (v0 : Int).toNat 13) : Int).toNat]? = some (20, n5)) ∧ ((0 : Int) ≤ v1) ∧ ((v1 : Int) < n5) ∧ ((¬ (v2 : Int) < (H ((H (v0 : Int).toNat 13) : Int).toNat (v1 : Int).toNat) → ((0 : Int) ≤ (H (v0 : Int).toNat 18)) ∧ ∃ n11 : Nat, (K[((H (v0 : Int).toNat 18) : Int).toNat]? = some (20, n11)) ∧ ((0 : Int) ≤ v2) ∧ ((v2 : Int) < n11) ∧ ∀ H15 : Mem, H15 = upA H ((H (v0 : Int).toNat 18) : Int).toNat (up1 (H ((H (v0 : Int).toNat 18) : Int).toNat) (v2 : Int).toNat 0) → (inI (v2 + 1)) ∧ FX12_asTold_2 d K H15 q (v0) (v1) ((v2 + 1))) ∧ ((v2 : Int) < (H ((H (v0 : Int).toNat 13) : Int).toNat (v1 : Int).toNat) → (inI (6 * v1)) ∧ (inI ((6 * v1) + v2)) ∧ ((0 : Int) ≤ (H (v0 : Int).toNat 17)) ∧ ∃ n20 : Nat, (K[((H (v0 : Int).toNat 17) : Int).toNat]? = some (20, n20)) ∧ ((0 : Int) ≤ ((6 * v1) + v2)) ∧ ((((6 * v1) + v2) : Int) < n20) ∧ ((0 : Int) ≤ (H (v0 : Int).toNat 18)) ∧ ∃ n25 : Nat, (K[((H (v0 : Int).toNat 18) : Int).toNat]? = some (20, n25)) ∧ ((0 : Int) ≤ v2) ∧ ((v2 : Int) < n25) ∧ ∀ H29 : Mem, H29 = upA H ((H (v0 : Int).toNat 18) : Int).toNat (up1 (H ((H (v0 : Int).toNat 18) : Int).toNat) (v2 : Int).toNat (H ((H (v0 : Int).toNat 17) : Int).toNat (((6 * v1) + v2) : Int).toNat)) → (inI (v2 + 1)) ∧ FX12_asTold_2 d K H29 q (v0) (v1) ((v2 + 1))))))) : FX12_asTold_2 d K H q (v0) (v1) (v2) := by
  unfold FX12_asTold_2
  refine r_iload_n 2 dX12_asTold_2 rfl rfl ?_
  refine r_bipush dX12_asTold_3 (by decide) (by decide) ?_
  refine r_icmp_ge (tgt := 45) dX12_asTold_5 (by decide) (fun c1 => ?_) (fun c1 => ?_)
  · replace h := h.1 c1
    exact r_vret dX12_asTold_45 rfl ⟨rfl, rfl, h⟩
  · replace h := h.2 c1
    refine r_aload_n 0 dX12_asTold_8 rfl rfl ?_
    obtain ⟨h2, h⟩ := h
    obtain ⟨h3, h⟩ := h
    refine r_getf cls12 18 dX12_asTold_9 (by decide) fl_RX12_49 rfl h2 h3 ?_
    refine r_iload_n 2 dX12_asTold_12 rfl rfl ?_
    refine r_iload_n 2 dX12_asTold_13 rfl rfl ?_
    refine r_aload_n 0 dX12_asTold_14 rfl rfl ?_
    refine r_getf cls12 13 dX12_asTold_15 (by decide) fl_RX12_34 rfl h2 h3 ?_
    refine r_iload_n 1 dX12_asTold_18 rfl rfl ?_
    obtain ⟨h4, h⟩ := h
    obtain ⟨n5, h⟩ := h
    obtain ⟨h6, h⟩ := h
    obtain ⟨h7, h⟩ := h
    obtain ⟨h8, h⟩ := h
    refine r_iald n5 dX12_asTold_19 h4 h6 h7 h8 ?_
    refine r_icmp_ge (tgt := 37) dX12_asTold_20 (by decide) (fun c9 => ?_) (fun c9 => ?_)
    · replace h := h.1 c9
      refine r_iconst dX12_asTold_37 (by decide) (by decide) ?_
      obtain ⟨h10, h⟩ := h
      obtain ⟨n11, h⟩ := h
      obtain ⟨h12, h⟩ := h
      obtain ⟨h13, h⟩ := h
      obtain ⟨h14, h⟩ := h
      refine r_iast n11 dX12_asTold_38 h10 h12 h13 h14 ?_
      replace h := h _ rfl
      generalize upA H ((H (v0 : Int).toNat 18) : Int).toNat (up1 (H ((H (v0 : Int).toNat 18) : Int).toNat) (v2 : Int).toNat 0) = H15 at h ⊢
      obtain ⟨h16, h⟩ := h
      refine r_iinc 2 dX12_asTold_39 (by decide) rfl h16 rfl ?_
      refine r_goto (tgt := 2) dX12_asTold_42 (by decide) ?_
      refine Fr.fewer [1, 2, 0] rfl ?_
      exact h
    · replace h := h.2 c9
      refine r_aload_n 0 dX12_asTold_23 rfl rfl ?_
      refine r_getf cls12 17 dX12_asTold_24 (by decide) fl_RX12_46 rfl h2 h3 ?_
      refine r_bipush dX12_asTold_27 (by decide) (by decide) ?_
      refine r_iload_n 1 dX12_asTold_29 rfl rfl ?_
      obtain ⟨h17, h⟩ := h
      refine r_imul dX12_asTold_30 h17 ?_
      refine r_iload_n 2 dX12_asTold_31 rfl rfl ?_
      obtain ⟨h18, h⟩ := h
      refine r_iadd dX12_asTold_32 h18 ?_
      obtain ⟨h19, h⟩ := h
      obtain ⟨n20, h⟩ := h
      obtain ⟨h21, h⟩ := h
      obtain ⟨h22, h⟩ := h
      obtain ⟨h23, h⟩ := h
      refine r_iald n20 dX12_asTold_33 h19 h21 h22 h23 ?_
      refine r_goto (tgt := 38) dX12_asTold_34 (by decide) ?_
      obtain ⟨h24, h⟩ := h
      obtain ⟨n25, h⟩ := h
      obtain ⟨h26, h⟩ := h
      obtain ⟨h27, h⟩ := h
      obtain ⟨h28, h⟩ := h
      refine r_iast n25 dX12_asTold_38 h24 h26 h27 h28 ?_
      replace h := h _ rfl
      generalize upA H ((H (v0 : Int).toNat 18) : Int).toNat (up1 (H ((H (v0 : Int).toNat 18) : Int).toNat) (v2 : Int).toNat (H ((H (v0 : Int).toNat 17) : Int).toNat (((6 * v1) + v2) : Int).toNat)) = H29 at h ⊢
      obtain ⟨h30, h⟩ := h
      refine r_iinc 2 dX12_asTold_39 (by decide) rfl h30 rfl ?_
      refine r_goto (tgt := 2) dX12_asTold_42 (by decide) ?_
      refine Fr.fewer [1, 2, 0] rfl ?_
      exact h
set_option maxHeartbeats 4000000 in
set_option maxRecDepth 20000 in
theorem eX12_asTold {d : Nat} {K : Shp} {H : Mem} {q : Mem → Prop} {v0 v1 : Int} (h : inI v1 → Rng K H → FX12_asTold_0 d K H q v0 v1) : Cv mX12_asTold d [(2, v0), (0, v1)] K H q := Call.of rfl (Nat.le_of_ble_eq_true rfl) (fun o r => h (o (0, v1) (by simp)) r)
def FX12_pulls_0 (d : Nat) (K : Shp) (H : Mem) (q : Int → Mem → Prop) (v0 : Int) : Prop := Fr mX12_pulls d 0 0 none 0 [(0, (2, v0))] [] K H (qi K q)
def FX12_pulls_4 (d : Nat) (K : Shp) (H : Mem) (q : Int → Mem → Prop) (v0 : Int) (v1 : Int) (v2 : Int) : Prop := Fr mX12_pulls d 0 0 none 4 [(0, (2, v0)), (1, (0, v1)), (2, (0, v2))] [] K H (qi K q)
set_option maxHeartbeats 4000000 in
set_option maxRecDepth 20000 in
theorem bX12_pulls_0 {d : Nat} {K : Shp} {H : Mem} {q : Int → Mem → Prop} {v0 : Int} (h : FX12_pulls_4 d K H q (v0) (0) (0)) : FX12_pulls_0 d K H q (v0) := by
  unfold FX12_pulls_0
  refine r_iconst dX12_pulls_0 (by decide) (by decide) ?_
  refine r_istore_n dX12_pulls_1 rfl (by decide) rfl ?_
  refine r_iconst dX12_pulls_2 (by decide) (by decide) ?_
  refine r_istore_n dX12_pulls_3 rfl (by decide) rfl ?_
  refine Fr.fewer [2, 1, 0] rfl ?_
  exact h
set_option maxHeartbeats 4000000 in
set_option maxRecDepth 20000 in
theorem bX12_pulls_4 {d : Nat} {K : Shp} {H : Mem} {q : Int → Mem → Prop} {v0 v1 v2 : Int} (h : ((¬ (v2 : Int) < 6 → q v1 H) ∧ ((v2 : Int) < 6 → ((0 : Int) ≤ v0) ∧ (K[(v0 : Int).toNat]? = some (12, 51)) ∧ ((0 : Int) ≤ (H (v0 : Int).toNat 18)) ∧ ∃ n5 : Nat, (K[((H (v0 : Int).toNat 18) : Int).toNat]? = some (20, n5)) ∧ ((0 : Int) ≤ v2) ∧ ((v2 : Int) < n5) ∧ (inI (v1 + (H ((H (v0 : Int).toNat 18) : Int).toNat (v2 : Int).toNat))) ∧ (inI (v2 + 1)) ∧ FX12_pulls_4 d K H q (v0) ((v1 + (H ((H (v0 : Int).toNat 18) : Int).toNat (v2 : Int).toNat))) ((v2 + 1))))) : FX12_pulls_4 d K H q (v0) (v1) (v2) := by
  unfold FX12_pulls_4
  refine r_iload_n 2 dX12_pulls_4 rfl rfl ?_
  refine r_bipush dX12_pulls_5 (by decide) (by decide) ?_
  refine r_icmp_ge (tgt := 25) dX12_pulls_7 (by decide) (fun c1 => ?_) (fun c1 => ?_)
  · replace h := h.1 c1
    refine r_iload_n 1 dX12_pulls_25 rfl rfl ?_
    exact r_iret dX12_pulls_26 rfl ⟨rfl, _, rfl, h⟩
  · replace h := h.2 c1
    refine r_iload_n 1 dX12_pulls_10 rfl rfl ?_
    refine r_aload_n 0 dX12_pulls_11 rfl rfl ?_
    obtain ⟨h2, h⟩ := h
    obtain ⟨h3, h⟩ := h
    refine r_getf cls12 18 dX12_pulls_12 (by decide) fl_RX12_49 rfl h2 h3 ?_
    refine r_iload_n 2 dX12_pulls_15 rfl rfl ?_
    obtain ⟨h4, h⟩ := h
    obtain ⟨n5, h⟩ := h
    obtain ⟨h6, h⟩ := h
    obtain ⟨h7, h⟩ := h
    obtain ⟨h8, h⟩ := h
    refine r_iald n5 dX12_pulls_16 h4 h6 h7 h8 ?_
    obtain ⟨h9, h⟩ := h
    refine r_iadd dX12_pulls_17 h9 ?_
    refine r_istore_n dX12_pulls_18 rfl (by decide) rfl ?_
    obtain ⟨h10, h⟩ := h
    refine r_iinc 2 dX12_pulls_19 (by decide) rfl h10 rfl ?_
    refine r_goto (tgt := 4) dX12_pulls_22 (by decide) ?_
    refine Fr.fewer [2, 1, 0] rfl ?_
    exact h
set_option maxHeartbeats 4000000 in
set_option maxRecDepth 20000 in
theorem eX12_pulls {d : Nat} {K : Shp} {H : Mem} {q : Int → Mem → Prop} {v0 : Int} (h : Rng K H → FX12_pulls_0 d K H q v0) : Ci mX12_pulls d [(2, v0)] K H q := Call.of rfl (Nat.le_of_ble_eq_true rfl) (fun o r => h  r)
def FX12_greatest_0 (d : Nat) (K : Shp) (H : Mem) (q : Int → Mem → Prop) (v0 : Int) (v1 : Int) : Prop := Fr mX12_greatest (d + 1) 0 0 none 0 [(0, (2, v0)), (1, (0, v1))] [] K H (qi K q)
set_option maxHeartbeats 4000000 in
set_option maxRecDepth 20000 in
theorem bX12_greatest_0 {d : Nat} {K : Shp} {H : Mem} {q : Int → Mem → Prop} {v0 v1 : Int} (h : ((0 : Int) ≤ v0) ∧ (K[(v0 : Int).toNat]? = some (12, 51)) ∧ ((0 : Int) ≤ (H (v0 : Int).toNat 10)) ∧ ∃ n4 : Nat, (K[((H (v0 : Int).toNat 10) : Int).toNat]? = some (20, n4)) ∧ ((0 : Int) ≤ v1) ∧ ((v1 : Int) < n4) ∧ ((0 : Int) ≤ (H (v0 : Int).toNat 14)) ∧ ∃ n9 : Nat, (K[((H (v0 : Int).toNat 14) : Int).toNat]? = some (20, n9)) ∧ ((v1 : Int) < n9) ∧ (inI ((H ((H (v0 : Int).toNat 10) : Int).toNat (v1 : Int).toNat) * (H ((H (v0 : Int).toNat 14) : Int).toNat (v1 : Int).toNat))) ∧ Ci mX12_pulls d [(2, v0)] K H (fun x14 H13 => (inI (((H ((H (v0 : Int).toNat 10) : Int).toNat (v1 : Int).toNat) * (H ((H (v0 : Int).toNat 14) : Int).toNat (v1 : Int).toNat)) + x14)) ∧ q (((H ((H (v0 : Int).toNat 10) : Int).toNat (v1 : Int).toNat) * (H ((H (v0 : Int).toNat 14) : Int).toNat (v1 : Int).toNat)) + x14) H13)) : FX12_greatest_0 d K H q (v0) (v1) := by
  unfold FX12_greatest_0
  refine r_aload_n 0 dX12_greatest_0 rfl rfl ?_
  obtain ⟨h1, h⟩ := h
  obtain ⟨h2, h⟩ := h
  refine r_getf cls12 10 dX12_greatest_1 (by decide) fl_RX12_25 rfl h1 h2 ?_
  refine r_iload_n 1 dX12_greatest_4 rfl rfl ?_
  obtain ⟨h3, h⟩ := h
  obtain ⟨n4, h⟩ := h
  obtain ⟨h5, h⟩ := h
  obtain ⟨h6, h⟩ := h
  obtain ⟨h7, h⟩ := h
  refine r_iald n4 dX12_greatest_5 h3 h5 h6 h7 ?_
  refine r_aload_n 0 dX12_greatest_6 rfl rfl ?_
  refine r_getf cls12 14 dX12_greatest_7 (by decide) fl_RX12_37 rfl h1 h2 ?_
  refine r_iload_n 1 dX12_greatest_10 rfl rfl ?_
  obtain ⟨h8, h⟩ := h
  obtain ⟨n9, h⟩ := h
  obtain ⟨h10, h⟩ := h
  obtain ⟨h11, h⟩ := h
  refine r_iald n9 dX12_greatest_11 h8 h10 h6 h11 ?_
  obtain ⟨h12, h⟩ := h
  refine r_imul dX12_greatest_12 h12 ?_
  refine r_aload_n 0 dX12_greatest_13 rfl rfl ?_
  refine r_invV (M := mX12_greatest) (As := []) (st := [(0, ((H ((H (v0 : Int).toNat 10) : Int).toNat (v1 : Int).toNat) * (H ((H (v0 : Int).toNat 14) : Int).toNat (v1 : Int).toNat)))]) (X := v0) (mc := 0) (ms := 0) (fc := 0) (fs := 0) h ok_X12_pulls cls12 im_X12_pulls se_X12_pulls ml_RX12_191 dX12_greatest_14 rfl h1 h2 (Nat.le_of_ble_eq_true rfl) rfl ?_
  rintro r K1 H13 ⟨rfl, x14, rfl, h⟩ -
  show Fr mX12_greatest (d + 1) 0 0 none 17 [(0, (2, v0)), (1, (0, v1))] [(0, x14), (0, ((H ((H (v0 : Int).toNat 10) : Int).toNat (v1 : Int).toNat) * (H ((H (v0 : Int).toNat 14) : Int).toNat (v1 : Int).toNat)))] _ H13 _
  obtain ⟨h15, h⟩ := h
  refine r_iadd dX12_greatest_17 h15 ?_
  exact r_iret dX12_greatest_18 rfl ⟨rfl, _, rfl, h⟩
set_option maxHeartbeats 4000000 in
set_option maxRecDepth 20000 in
theorem eX12_greatest {d : Nat} {K : Shp} {H : Mem} {q : Int → Mem → Prop} {v0 v1 : Int} (h : inI v1 → Rng K H → FX12_greatest_0 d K H q v0 v1) : Ci mX12_greatest (d + 1) [(2, v0), (0, v1)] K H q := Call.of rfl (Nat.le_of_ble_eq_true rfl) (fun o r => h (o (0, v1) (by simp)) r)
def FX12_told_0 (d : Nat) (K : Shp) (H : Mem) (q : Int → Mem → Prop) (v0 : Int) (v1 : Int) (v2 : Int) : Prop := Fr mX12_told (d + 1) 0 0 none 0 [(0, (2, v0)), (1, (0, v1)), (2, (0, v2))] [] K H (qi K q)
set_option maxHeartbeats 4000000 in
set_option maxRecDepth 20000 in
theorem bX12_told_0 {d : Nat} {K : Shp} {H : Mem} {q : Int → Mem → Prop} {v0 v1 v2 : Int} (h : Ci mX12_isSection d [(0, v1)] K H (fun x2 H1 => ((¬ (x2 : Int) = 0 → (((v2 : Int) < 0 → ((0 : Int) ≤ v0) ∧ (K[(v0 : Int).toNat]? = some (12, 51)) ∧ Ci mX12_refuse d [(2, v0), (0, 2)] K H1 (fun x8 H7 => q x8 H7)) ∧ (¬ (v2 : Int) < 0 → (((v2 : Int) ≤ 6 → ((0 : Int) ≤ v0) ∧ (K[(v0 : Int).toNat]? = some (12, 51)) ∧ ∀ H12 : Mem, H12 = upA H1 (v0 : Int).toNat (up1 (H1 (v0 : Int).toNat) 0 0) → Cv mX12_asTold d [(2, v0), (0, v1)] K H12 (fun H13 => ((v2 = 0 → ((0 : Int) ≤ (H13 (v0 : Int).toNat 10)) ∧ ∃ n16 : Nat, (K[((H13 (v0 : Int).toNat 10) : Int).toNat]? = some (20, n16)) ∧ ((0 : Int) ≤ v1) ∧ ((v1 : Int) < n16) ∧ q (H13 ((H13 (v0 : Int).toNat 10) : Int).toNat (v1 : Int).toNat) H13) ∧ (v2 = 1 → ((0 : Int) ≤ (H13 (v0 : Int).toNat 11)) ∧ ∃ n21 : Nat, (K[((H13 (v0 : Int).toNat 11) : Int).toNat]? = some (20, n21)) ∧ ((0 : Int) ≤ v1) ∧ ((v1 : Int) < n21) ∧ q (H13 ((H13 (v0 : Int).toNat 11) : Int).toNat (v1 : Int).toNat) H13) ∧ (v2 = 2 → ((0 : Int) ≤ (H13 (v0 : Int).toNat 12)) ∧ ∃ n26 : Nat, (K[((H13 (v0 : Int).toNat 12) : Int).toNat]? = some (20, n26)) ∧ ((0 : Int) ≤ v1) ∧ ((v1 : Int) < n26) ∧ q (H13 ((H13 (v0 : Int).toNat 12) : Int).toNat (v1 : Int).toNat) H13) ∧ (v2 = 3 → ((0 : Int) ≤ (H13 (v0 : Int).toNat 13)) ∧ ∃ n31 : Nat, (K[((H13 (v0 : Int).toNat 13) : Int).toNat]? = some (20, n31)) ∧ ((0 : Int) ≤ v1) ∧ ((v1 : Int) < n31) ∧ q (H13 ((H13 (v0 : Int).toNat 13) : Int).toNat (v1 : Int).toNat) H13) ∧ (v2 = 4 → ((0 : Int) ≤ (H13 (v0 : Int).toNat 14)) ∧ ∃ n36 : Nat, (K[((H13 (v0 : Int).toNat 14) : Int).toNat]? = some (20, n36)) ∧ ((0 : Int) ≤ v1) ∧ ((v1 : Int) < n36) ∧ q (H13 ((H13 (v0 : Int).toNat 14) : Int).toNat (v1 : Int).toNat) H13) ∧ (v2 = 5 → Ci mX12_greatest d [(2, v0), (0, v1)] K H13 (fun x41 H40 => q x41 H40)) ∧ ((v2 < 0 ∨ 5 < v2) → Ci mX12_pulls d [(2, v0)] K H13 (fun x43 H42 => (inI (-x43)) ∧ q (-x43) H42))))) ∧ (¬ (v2 : Int) ≤ 6 → ((0 : Int) ≤ v0) ∧ (K[(v0 : Int).toNat]? = some (12, 51)) ∧ Ci mX12_refuse d [(2, v0), (0, 2)] K H1 (fun x48 H47 => q x48 H47)))))) ∧ ((x2 : Int) = 0 → ((0 : Int) ≤ v0) ∧ (K[(v0 : Int).toNat]? = some (12, 51)) ∧ Ci mX12_refuse d [(2, v0), (0, 1)] K H1 (fun x52 H51 => q x52 H51))))) : FX12_told_0 d K H q (v0) (v1) (v2) := by
  unfold FX12_told_0
  refine r_iload_n 1 dX12_told_0 rfl rfl ?_
  refine r_invS (M := mX12_told) (As := [(0, v1)]) (st := []) (mc := 0) (ms := 0) (fc := 0) (fs := 0) h ok_X12_isSection sm_X12_isSection ml_RX12_177 dX12_told_1 rfl (Nat.le_of_ble_eq_true rfl) rfl ?_
  rintro r K1 H1 ⟨rfl, x2, rfl, h⟩ -
  show Fr mX12_told (d + 1) 0 0 none 4 [(0, (2, v0)), (1, (0, v1)), (2, (0, v2))] [(0, x2)] _ H1 _
  refine r_if_ne (tgt := 13) dX12_told_4 (by decide) (fun c3 => ?_) (fun c3 => ?_)
  · replace h := h.1 c3
    refine r_iload_n 2 dX12_told_13 rfl rfl ?_
    refine r_if_lt (tgt := 23) dX12_told_14 (by decide) (fun c4 => ?_) (fun c4 => ?_)
    · replace h := h.1 c4
      refine r_aload_n 0 dX12_told_23 rfl rfl ?_
      refine r_iconst dX12_told_24 (by decide) (by decide) ?_
      obtain ⟨h5, h⟩ := h
      obtain ⟨h6, h⟩ := h
      refine r_invV (M := mX12_told) (As := [(0, 2)]) (st := []) (X := v0) (mc := 0) (ms := 0) (fc := 0) (fs := 0) h ok_X12_refuse cls12 im_X12_refuse se_X12_refuse ml_RX12_184 dX12_told_25 rfl h5 h6 (Nat.le_of_ble_eq_true rfl) rfl ?_
      rintro r K1 H7 ⟨rfl, x8, rfl, h⟩ -
      show Fr mX12_told (d + 1) 0 0 none 28 [(0, (2, v0)), (1, (0, v1)), (2, (0, v2))] [(0, x8)] _ H7 _
      exact r_iret dX12_told_28 rfl ⟨rfl, _, rfl, h⟩
    · replace h := h.2 c4
      refine r_iload_n 2 dX12_told_17 rfl rfl ?_
      refine r_bipush dX12_told_18 (by decide) (by decide) ?_
      refine r_icmp_le (tgt := 29) dX12_told_20 (by decide) (fun c9 => ?_) (fun c9 => ?_)
      · replace h := h.1 c9
        refine r_aload_n 0 dX12_told_29 rfl rfl ?_
        refine r_iconst dX12_told_30 (by decide) (by decide) ?_
        obtain ⟨h10, h⟩ := h
        obtain ⟨h11, h⟩ := h
        refine r_putf cls12 0 dX12_told_31 (by decide) rfl fl_RX12_89 rfl h10 h11 (fun o => o) ?_
        replace h := h _ rfl
        generalize upA H1 (v0 : Int).toNat (up1 (H1 (v0 : Int).toNat) 0 0) = H12 at h ⊢
        refine r_aload_n 0 dX12_told_34 rfl rfl ?_
        refine r_iload_n 1 dX12_told_35 rfl rfl ?_
        refine r_invV (M := mX12_told) (As := [(0, v1)]) (st := []) (X := v0) (mc := 0) (ms := 0) (fc := 0) (fs := 0) h ok_X12_asTold cls12 im_X12_asTold se_X12_asTold ml_RX12_195 dX12_told_36 rfl h10 h11 (Nat.le_of_ble_eq_true rfl) rfl ?_
        rintro r K1 H13 ⟨rfl, rfl, h⟩ -
        show Fr mX12_told (d + 1) 0 0 none 39 [(0, (2, v0)), (1, (0, v1)), (2, (0, v2))] [] _ H13 _
        refine r_iload_n 2 dX12_told_39 rfl rfl ?_
        refine r_table (dt := 121) dX12_told_40 (by decide) (fun j hj1 hj2 hj => ?_) (fun hj => ?_)
        · rcases (show j = 0 ∨ j = 1 ∨ j = 2 ∨ j = 3 ∨ j = 4 ∨ j = 5 by omega) with rfl | rfl | rfl | rfl | rfl | rfl
          · refine ⟨_, 80, rfl, by decide, ?_⟩
            replace h := h.1 hj
            refine r_aload_n 0 dX12_told_80 rfl rfl ?_
            refine r_getf cls12 10 dX12_told_81 (by decide) fl_RX12_25 rfl h10 h11 ?_
            refine r_iload_n 1 dX12_told_84 rfl rfl ?_
            obtain ⟨h15, h⟩ := h
            obtain ⟨n16, h⟩ := h
            obtain ⟨h17, h⟩ := h
            obtain ⟨h18, h⟩ := h
            obtain ⟨h19, h⟩ := h
            refine r_iald n16 dX12_told_85 h15 h17 h18 h19 ?_
            exact r_iret dX12_told_86 rfl ⟨rfl, _, rfl, h⟩
          · refine ⟨_, 87, rfl, by decide, ?_⟩
            replace h := h.2.1 hj
            refine r_aload_n 0 dX12_told_87 rfl rfl ?_
            refine r_getf cls12 11 dX12_told_88 (by decide) fl_RX12_28 rfl h10 h11 ?_
            refine r_iload_n 1 dX12_told_91 rfl rfl ?_
            obtain ⟨h20, h⟩ := h
            obtain ⟨n21, h⟩ := h
            obtain ⟨h22, h⟩ := h
            obtain ⟨h23, h⟩ := h
            obtain ⟨h24, h⟩ := h
            refine r_iald n21 dX12_told_92 h20 h22 h23 h24 ?_
            exact r_iret dX12_told_93 rfl ⟨rfl, _, rfl, h⟩
          · refine ⟨_, 94, rfl, by decide, ?_⟩
            replace h := h.2.2.1 hj
            refine r_aload_n 0 dX12_told_94 rfl rfl ?_
            refine r_getf cls12 12 dX12_told_95 (by decide) fl_RX12_31 rfl h10 h11 ?_
            refine r_iload_n 1 dX12_told_98 rfl rfl ?_
            obtain ⟨h25, h⟩ := h
            obtain ⟨n26, h⟩ := h
            obtain ⟨h27, h⟩ := h
            obtain ⟨h28, h⟩ := h
            obtain ⟨h29, h⟩ := h
            refine r_iald n26 dX12_told_99 h25 h27 h28 h29 ?_
            exact r_iret dX12_told_100 rfl ⟨rfl, _, rfl, h⟩
          · refine ⟨_, 101, rfl, by decide, ?_⟩
            replace h := h.2.2.2.1 hj
            refine r_aload_n 0 dX12_told_101 rfl rfl ?_
            refine r_getf cls12 13 dX12_told_102 (by decide) fl_RX12_34 rfl h10 h11 ?_
            refine r_iload_n 1 dX12_told_105 rfl rfl ?_
            obtain ⟨h30, h⟩ := h
            obtain ⟨n31, h⟩ := h
            obtain ⟨h32, h⟩ := h
            obtain ⟨h33, h⟩ := h
            obtain ⟨h34, h⟩ := h
            refine r_iald n31 dX12_told_106 h30 h32 h33 h34 ?_
            exact r_iret dX12_told_107 rfl ⟨rfl, _, rfl, h⟩
          · refine ⟨_, 108, rfl, by decide, ?_⟩
            replace h := h.2.2.2.2.1 hj
            refine r_aload_n 0 dX12_told_108 rfl rfl ?_
            refine r_getf cls12 14 dX12_told_109 (by decide) fl_RX12_37 rfl h10 h11 ?_
            refine r_iload_n 1 dX12_told_112 rfl rfl ?_
            obtain ⟨h35, h⟩ := h
            obtain ⟨n36, h⟩ := h
            obtain ⟨h37, h⟩ := h
            obtain ⟨h38, h⟩ := h
            obtain ⟨h39, h⟩ := h
            refine r_iald n36 dX12_told_113 h35 h37 h38 h39 ?_
            exact r_iret dX12_told_114 rfl ⟨rfl, _, rfl, h⟩
          · refine ⟨_, 115, rfl, by decide, ?_⟩
            replace h := h.2.2.2.2.2.1 hj
            refine r_aload_n 0 dX12_told_115 rfl rfl ?_
            refine r_iload_n 1 dX12_told_116 rfl rfl ?_
            refine r_invV (M := mX12_told) (As := [(0, v1)]) (st := []) (X := v0) (mc := 0) (ms := 0) (fc := 0) (fs := 0) h ok_X12_greatest cls12 im_X12_greatest se_X12_greatest ml_RX12_198 dX12_told_117 rfl h10 h11 (Nat.le_of_ble_eq_true rfl) rfl ?_
            rintro r K1 H40 ⟨rfl, x41, rfl, h⟩ -
            show Fr mX12_told (d + 1) 0 0 none 120 [(0, (2, v0)), (1, (0, v1)), (2, (0, v2))] [(0, x41)] _ H40 _
            exact r_iret dX12_told_120 rfl ⟨rfl, _, rfl, h⟩
        · replace h := h.2.2.2.2.2.2 hj
          refine r_aload_n 0 dX12_told_121 rfl rfl ?_
          refine r_invV (M := mX12_told) (As := []) (st := []) (X := v0) (mc := 0) (ms := 0) (fc := 0) (fs := 0) h ok_X12_pulls cls12 im_X12_pulls se_X12_pulls ml_RX12_191 dX12_told_122 rfl h10 h11 (Nat.le_of_ble_eq_true rfl) rfl ?_
          rintro r K1 H42 ⟨rfl, x43, rfl, h⟩ -
          show Fr mX12_told (d + 1) 0 0 none 125 [(0, (2, v0)), (1, (0, v1)), (2, (0, v2))] [(0, x43)] _ H42 _
          obtain ⟨h44, h⟩ := h
          refine r_ineg dX12_told_125 h44 ?_
          exact r_iret dX12_told_126 rfl ⟨rfl, _, rfl, h⟩
      · replace h := h.2 c9
        refine r_aload_n 0 dX12_told_23 rfl rfl ?_
        refine r_iconst dX12_told_24 (by decide) (by decide) ?_
        obtain ⟨h45, h⟩ := h
        obtain ⟨h46, h⟩ := h
        refine r_invV (M := mX12_told) (As := [(0, 2)]) (st := []) (X := v0) (mc := 0) (ms := 0) (fc := 0) (fs := 0) h ok_X12_refuse cls12 im_X12_refuse se_X12_refuse ml_RX12_184 dX12_told_25 rfl h45 h46 (Nat.le_of_ble_eq_true rfl) rfl ?_
        rintro r K1 H47 ⟨rfl, x48, rfl, h⟩ -
        show Fr mX12_told (d + 1) 0 0 none 28 [(0, (2, v0)), (1, (0, v1)), (2, (0, v2))] [(0, x48)] _ H47 _
        exact r_iret dX12_told_28 rfl ⟨rfl, _, rfl, h⟩
  · replace h := h.2 c3
    refine r_aload_n 0 dX12_told_7 rfl rfl ?_
    refine r_iconst dX12_told_8 (by decide) (by decide) ?_
    obtain ⟨h49, h⟩ := h
    obtain ⟨h50, h⟩ := h
    refine r_invV (M := mX12_told) (As := [(0, 1)]) (st := []) (X := v0) (mc := 0) (ms := 0) (fc := 0) (fs := 0) h ok_X12_refuse cls12 im_X12_refuse se_X12_refuse ml_RX12_184 dX12_told_9 rfl h49 h50 (Nat.le_of_ble_eq_true rfl) rfl ?_
    rintro r K1 H51 ⟨rfl, x52, rfl, h⟩ -
    show Fr mX12_told (d + 1) 0 0 none 12 [(0, (2, v0)), (1, (0, v1)), (2, (0, v2))] [(0, x52)] _ H51 _
    exact r_iret dX12_told_12 rfl ⟨rfl, _, rfl, h⟩
set_option maxHeartbeats 4000000 in
set_option maxRecDepth 20000 in
theorem eX12_told {d : Nat} {K : Shp} {H : Mem} {q : Int → Mem → Prop} {v0 v1 v2 : Int} (h : inI v1 → inI v2 → Rng K H → FX12_told_0 d K H q v0 v1 v2) : Ci mX12_told (d + 1) [(2, v0), (0, v1), (0, v2)] K H q := Call.of rfl (Nat.le_of_ble_eq_true rfl) (fun o r => h (o (0, v1) (by simp)) (o (0, v2) (by simp)) r)
def FX12_strength_0 (d : Nat) (K : Shp) (H : Mem) (q : Int → Mem → Prop) (v0 : Int) (v1 : Int) (v2 : Int) : Prop := Fr mX12_strength (d + 1) 0 0 none 0 [(0, (2, v0)), (1, (0, v1)), (2, (0, v2))] [] K H (qi K q)
set_option maxHeartbeats 4000000 in
set_option maxRecDepth 20000 in
theorem bX12_strength_0 {d : Nat} {K : Shp} {H : Mem} {q : Int → Mem → Prop} {v0 v1 v2 : Int} (h : ((0 : Int) ≤ v0) ∧ (K[(v0 : Int).toNat]? = some (12, 51)) ∧ Ci mX12_isRod d [(2, v0), (0, v1), (0, v2)] K H (fun x4 H3 => ((¬ (x4 : Int) = 0 → ∀ H6 : Mem, H6 = upA H3 (v0 : Int).toNat (up1 (H3 (v0 : Int).toNat) 0 0) → (inI (6 * v1)) ∧ (inI ((6 * v1) + v2)) ∧ ((0 : Int) ≤ (H6 (v0 : Int).toNat 17)) ∧ ∃ n10 : Nat, (K[((H6 (v0 : Int).toNat 17) : Int).toNat]? = some (20, n10)) ∧ ((0 : Int) ≤ ((6 * v1) + v2)) ∧ ((((6 * v1) + v2) : Int) < n10) ∧ q (H6 ((H6 (v0 : Int).toNat 17) : Int).toNat (((6 * v1) + v2) : Int).toNat) H6) ∧ ((x4 : Int) = 0 → Ci mX12_refuse d [(2, v0), (0, 1)] K H3 (fun x15 H14 => q x15 H14))))) : FX12_strength_0 d K H q (v0) (v1) (v2) := by
  unfold FX12_strength_0
  refine r_aload_n 0 dX12_strength_0 rfl rfl ?_
  refine r_iload_n 1 dX12_strength_1 rfl rfl ?_
  refine r_iload_n 2 dX12_strength_2 rfl rfl ?_
  obtain ⟨h1, h⟩ := h
  obtain ⟨h2, h⟩ := h
  refine r_invV (M := mX12_strength) (As := [(0, v1), (0, v2)]) (st := []) (X := v0) (mc := 0) (ms := 0) (fc := 0) (fs := 0) h ok_X12_isRod cls12 im_X12_isRod se_X12_isRod ml_RX12_187 dX12_strength_3 rfl h1 h2 (Nat.le_of_ble_eq_true rfl) rfl ?_
  rintro r K1 H3 ⟨rfl, x4, rfl, h⟩ -
  show Fr mX12_strength (d + 1) 0 0 none 6 [(0, (2, v0)), (1, (0, v1)), (2, (0, v2))] [(0, x4)] _ H3 _
  refine r_if_ne (tgt := 15) dX12_strength_6 (by decide) (fun c5 => ?_) (fun c5 => ?_)
  · replace h := h.1 c5
    refine r_aload_n 0 dX12_strength_15 rfl rfl ?_
    refine r_iconst dX12_strength_16 (by decide) (by decide) ?_
    refine r_putf cls12 0 dX12_strength_17 (by decide) rfl fl_RX12_89 rfl h1 h2 (fun o => o) ?_
    replace h := h _ rfl
    generalize upA H3 (v0 : Int).toNat (up1 (H3 (v0 : Int).toNat) 0 0) = H6 at h ⊢
    refine r_aload_n 0 dX12_strength_20 rfl rfl ?_
    refine r_getf cls12 17 dX12_strength_21 (by decide) fl_RX12_46 rfl h1 h2 ?_
    refine r_bipush dX12_strength_24 (by decide) (by decide) ?_
    refine r_iload_n 1 dX12_strength_26 rfl rfl ?_
    obtain ⟨h7, h⟩ := h
    refine r_imul dX12_strength_27 h7 ?_
    refine r_iload_n 2 dX12_strength_28 rfl rfl ?_
    obtain ⟨h8, h⟩ := h
    refine r_iadd dX12_strength_29 h8 ?_
    obtain ⟨h9, h⟩ := h
    obtain ⟨n10, h⟩ := h
    obtain ⟨h11, h⟩ := h
    obtain ⟨h12, h⟩ := h
    obtain ⟨h13, h⟩ := h
    refine r_iald n10 dX12_strength_30 h9 h11 h12 h13 ?_
    exact r_iret dX12_strength_31 rfl ⟨rfl, _, rfl, h⟩
  · replace h := h.2 c5
    refine r_aload_n 0 dX12_strength_9 rfl rfl ?_
    refine r_iconst dX12_strength_10 (by decide) (by decide) ?_
    refine r_invV (M := mX12_strength) (As := [(0, 1)]) (st := []) (X := v0) (mc := 0) (ms := 0) (fc := 0) (fs := 0) h ok_X12_refuse cls12 im_X12_refuse se_X12_refuse ml_RX12_184 dX12_strength_11 rfl h1 h2 (Nat.le_of_ble_eq_true rfl) rfl ?_
    rintro r K1 H14 ⟨rfl, x15, rfl, h⟩ -
    show Fr mX12_strength (d + 1) 0 0 none 14 [(0, (2, v0)), (1, (0, v1)), (2, (0, v2))] [(0, x15)] _ H14 _
    exact r_iret dX12_strength_14 rfl ⟨rfl, _, rfl, h⟩
set_option maxHeartbeats 4000000 in
set_option maxRecDepth 20000 in
theorem eX12_strength {d : Nat} {K : Shp} {H : Mem} {q : Int → Mem → Prop} {v0 v1 v2 : Int} (h : inI v1 → inI v2 → Rng K H → FX12_strength_0 d K H q v0 v1 v2) : Ci mX12_strength (d + 1) [(2, v0), (0, v1), (0, v2)] K H q := Call.of rfl (Nat.le_of_ble_eq_true rfl) (fun o r => h (o (0, v1) (by simp)) (o (0, v2) (by simp)) r)
def FX12_width_0 (d : Nat) (K : Shp) (H : Mem) (q : Int → Mem → Prop) (v0 : Int) (v1 : Int) (v2 : Int) : Prop := Fr mX12_width (d + 1) 0 0 none 0 [(0, (2, v0)), (1, (0, v1)), (2, (0, v2))] [] K H (qi K q)
set_option maxHeartbeats 4000000 in
set_option maxRecDepth 20000 in
theorem bX12_width_0 {d : Nat} {K : Shp} {H : Mem} {q : Int → Mem → Prop} {v0 v1 v2 : Int} (h : Ci mX12_isSection d [(0, v1)] K H (fun x2 H1 => ((¬ (x2 : Int) = 0 → (((v2 : Int) < 0 → ((0 : Int) ≤ v0) ∧ (K[(v0 : Int).toNat]? = some (12, 51)) ∧ Ci mX12_refuse d [(2, v0), (0, 2)] K H1 (fun x8 H7 => q x8 H7)) ∧ (¬ (v2 : Int) < 0 → (((v2 : Int) < 100 → ((0 : Int) ≤ v0) ∧ (K[(v0 : Int).toNat]? = some (12, 51)) ∧ ∀ H12 : Mem, H12 = upA H1 (v0 : Int).toNat (up1 (H1 (v0 : Int).toNat) 0 0) → (inI (100 * v1)) ∧ (inI ((100 * v1) + v2)) ∧ ((0 : Int) ≤ (H12 (v0 : Int).toNat 15)) ∧ ∃ n16 : Nat, (K[((H12 (v0 : Int).toNat 15) : Int).toNat]? = some (20, n16)) ∧ ((0 : Int) ≤ ((100 * v1) + v2)) ∧ ((((100 * v1) + v2) : Int) < n16) ∧ q (H12 ((H12 (v0 : Int).toNat 15) : Int).toNat (((100 * v1) + v2) : Int).toNat) H12) ∧ (¬ (v2 : Int) < 100 → ((0 : Int) ≤ v0) ∧ (K[(v0 : Int).toNat]? = some (12, 51)) ∧ Ci mX12_refuse d [(2, v0), (0, 2)] K H1 (fun x23 H22 => q x23 H22)))))) ∧ ((x2 : Int) = 0 → ((0 : Int) ≤ v0) ∧ (K[(v0 : Int).toNat]? = some (12, 51)) ∧ Ci mX12_refuse d [(2, v0), (0, 1)] K H1 (fun x27 H26 => q x27 H26))))) : FX12_width_0 d K H q (v0) (v1) (v2) := by
  unfold FX12_width_0
  refine r_iload_n 1 dX12_width_0 rfl rfl ?_
  refine r_invS (M := mX12_width) (As := [(0, v1)]) (st := []) (mc := 0) (ms := 0) (fc := 0) (fs := 0) h ok_X12_isSection sm_X12_isSection ml_RX12_177 dX12_width_1 rfl (Nat.le_of_ble_eq_true rfl) rfl ?_
  rintro r K1 H1 ⟨rfl, x2, rfl, h⟩ -
  show Fr mX12_width (d + 1) 0 0 none 4 [(0, (2, v0)), (1, (0, v1)), (2, (0, v2))] [(0, x2)] _ H1 _
  refine r_if_ne (tgt := 13) dX12_width_4 (by decide) (fun c3 => ?_) (fun c3 => ?_)
  · replace h := h.1 c3
    refine r_iload_n 2 dX12_width_13 rfl rfl ?_
    refine r_if_lt (tgt := 23) dX12_width_14 (by decide) (fun c4 => ?_) (fun c4 => ?_)
    · replace h := h.1 c4
      refine r_aload_n 0 dX12_width_23 rfl rfl ?_
      refine r_iconst dX12_width_24 (by decide) (by decide) ?_
      obtain ⟨h5, h⟩ := h
      obtain ⟨h6, h⟩ := h
      refine r_invV (M := mX12_width) (As := [(0, 2)]) (st := []) (X := v0) (mc := 0) (ms := 0) (fc := 0) (fs := 0) h ok_X12_refuse cls12 im_X12_refuse se_X12_refuse ml_RX12_184 dX12_width_25 rfl h5 h6 (Nat.le_of_ble_eq_true rfl) rfl ?_
      rintro r K1 H7 ⟨rfl, x8, rfl, h⟩ -
      show Fr mX12_width (d + 1) 0 0 none 28 [(0, (2, v0)), (1, (0, v1)), (2, (0, v2))] [(0, x8)] _ H7 _
      exact r_iret dX12_width_28 rfl ⟨rfl, _, rfl, h⟩
    · replace h := h.2 c4
      refine r_iload_n 2 dX12_width_17 rfl rfl ?_
      refine r_bipush dX12_width_18 (by decide) (by decide) ?_
      refine r_icmp_lt (tgt := 29) dX12_width_20 (by decide) (fun c9 => ?_) (fun c9 => ?_)
      · replace h := h.1 c9
        refine r_aload_n 0 dX12_width_29 rfl rfl ?_
        refine r_iconst dX12_width_30 (by decide) (by decide) ?_
        obtain ⟨h10, h⟩ := h
        obtain ⟨h11, h⟩ := h
        refine r_putf cls12 0 dX12_width_31 (by decide) rfl fl_RX12_89 rfl h10 h11 (fun o => o) ?_
        replace h := h _ rfl
        generalize upA H1 (v0 : Int).toNat (up1 (H1 (v0 : Int).toNat) 0 0) = H12 at h ⊢
        refine r_aload_n 0 dX12_width_34 rfl rfl ?_
        refine r_getf cls12 15 dX12_width_35 (by decide) fl_RX12_40 rfl h10 h11 ?_
        refine r_bipush dX12_width_38 (by decide) (by decide) ?_
        refine r_iload_n 1 dX12_width_40 rfl rfl ?_
        obtain ⟨h13, h⟩ := h
        refine r_imul dX12_width_41 h13 ?_
        refine r_iload_n 2 dX12_width_42 rfl rfl ?_
        obtain ⟨h14, h⟩ := h
        refine r_iadd dX12_width_43 h14 ?_
        obtain ⟨h15, h⟩ := h
        obtain ⟨n16, h⟩ := h
        obtain ⟨h17, h⟩ := h
        obtain ⟨h18, h⟩ := h
        obtain ⟨h19, h⟩ := h
        refine r_iald n16 dX12_width_44 h15 h17 h18 h19 ?_
        exact r_iret dX12_width_45 rfl ⟨rfl, _, rfl, h⟩
      · replace h := h.2 c9
        refine r_aload_n 0 dX12_width_23 rfl rfl ?_
        refine r_iconst dX12_width_24 (by decide) (by decide) ?_
        obtain ⟨h20, h⟩ := h
        obtain ⟨h21, h⟩ := h
        refine r_invV (M := mX12_width) (As := [(0, 2)]) (st := []) (X := v0) (mc := 0) (ms := 0) (fc := 0) (fs := 0) h ok_X12_refuse cls12 im_X12_refuse se_X12_refuse ml_RX12_184 dX12_width_25 rfl h20 h21 (Nat.le_of_ble_eq_true rfl) rfl ?_
        rintro r K1 H22 ⟨rfl, x23, rfl, h⟩ -
        show Fr mX12_width (d + 1) 0 0 none 28 [(0, (2, v0)), (1, (0, v1)), (2, (0, v2))] [(0, x23)] _ H22 _
        exact r_iret dX12_width_28 rfl ⟨rfl, _, rfl, h⟩
  · replace h := h.2 c3
    refine r_aload_n 0 dX12_width_7 rfl rfl ?_
    refine r_iconst dX12_width_8 (by decide) (by decide) ?_
    obtain ⟨h24, h⟩ := h
    obtain ⟨h25, h⟩ := h
    refine r_invV (M := mX12_width) (As := [(0, 1)]) (st := []) (X := v0) (mc := 0) (ms := 0) (fc := 0) (fs := 0) h ok_X12_refuse cls12 im_X12_refuse se_X12_refuse ml_RX12_184 dX12_width_9 rfl h24 h25 (Nat.le_of_ble_eq_true rfl) rfl ?_
    rintro r K1 H26 ⟨rfl, x27, rfl, h⟩ -
    show Fr mX12_width (d + 1) 0 0 none 12 [(0, (2, v0)), (1, (0, v1)), (2, (0, v2))] [(0, x27)] _ H26 _
    exact r_iret dX12_width_12 rfl ⟨rfl, _, rfl, h⟩
set_option maxHeartbeats 4000000 in
set_option maxRecDepth 20000 in
theorem eX12_width {d : Nat} {K : Shp} {H : Mem} {q : Int → Mem → Prop} {v0 v1 v2 : Int} (h : inI v1 → inI v2 → Rng K H → FX12_width_0 d K H q v0 v1 v2) : Ci mX12_width (d + 1) [(2, v0), (0, v1), (0, v2)] K H q := Call.of rfl (Nat.le_of_ble_eq_true rfl) (fun o r => h (o (0, v1) (by simp)) (o (0, v2) (by simp)) r)
def FX12_at_0 (d : Nat) (K : Shp) (H : Mem) (q : Int → Mem → Prop) (v0 : Int) (v1 : Int) (v2 : Int) : Prop := Fr mX12_at d 0 0 none 0 [(0, (2, v0)), (1, (0, v1)), (2, (0, v2))] [] K H (ql K q)
def FX12_at_5 (d : Nat) (K : Shp) (H : Mem) (q : Int → Mem → Prop) (v0 : Int) (v1 : Int) (v2 : Int) (v3 : Int) (v5 : Int) : Prop := Fr mX12_at d 0 0 none 5 [(0, (2, v0)), (1, (0, v1)), (2, (0, v2)), (3, (1, v3)), (5, (0, v5))] [] K H (ql K q)
set_option maxHeartbeats 4000000 in
set_option maxRecDepth 20000 in
theorem bX12_at_0 {d : Nat} {K : Shp} {H : Mem} {q : Int → Mem → Prop} {v0 v1 v2 : Int} (h : FX12_at_5 d K H q (v0) (v1) (v2) (0) (0)) : FX12_at_0 d K H q (v0) (v1) (v2) := by
  unfold FX12_at_0
  refine r_lconst0 dX12_at_0 ?_
  refine r_lstore_n dX12_at_1 rfl (by decide) rfl ?_
  refine r_iconst dX12_at_2 (by decide) (by decide) ?_
  refine r_istore dX12_at_3 (by decide) rfl ?_
  refine Fr.fewer [2, 3, 4, 1, 0] rfl ?_
  exact h
set_option maxHeartbeats 4000000 in
set_option maxRecDepth 20000 in
theorem bX12_at_5 {d : Nat} {K : Shp} {H : Mem} {q : Int → Mem → Prop} {v0 v1 v2 v3 v5 : Int} (h : ((0 : Int) ≤ v0) ∧ (K[(v0 : Int).toNat]? = some (12, 51)) ∧ ((0 : Int) ≤ (H (v0 : Int).toNat 13)) ∧ ∃ n4 : Nat, (K[((H (v0 : Int).toNat 13) : Int).toNat]? = some (20, n4)) ∧ ((0 : Int) ≤ v1) ∧ ((v1 : Int) < n4) ∧ ((¬ (v5 : Int) < (H ((H (v0 : Int).toNat 13) : Int).toNat (v1 : Int).toNat) → q v3 H) ∧ ((v5 : Int) < (H ((H (v0 : Int).toNat 13) : Int).toNat (v1 : Int).toNat) → (inI (6 * v1)) ∧ (inI ((6 * v1) + v5)) ∧ ((0 : Int) ≤ (H (v0 : Int).toNat 16)) ∧ ∃ n12 : Nat, (K[((H (v0 : Int).toNat 16) : Int).toNat]? = some (20, n12)) ∧ ((0 : Int) ≤ ((6 * v1) + v5)) ∧ ((((6 * v1) + v5) : Int) < n12) ∧ ((¬ ((H ((H (v0 : Int).toNat 16) : Int).toNat (((6 * v1) + v5) : Int).toNat) : Int) = v2 → (inL (v3 + 0)) ∧ (inI (v5 + 1)) ∧ FX12_at_5 d K H q (v0) (v1) (v2) ((v3 + 0)) ((v5 + 1))) ∧ (((H ((H (v0 : Int).toNat 16) : Int).toNat (((6 * v1) + v5) : Int).toNat) : Int) = v2 → ((0 : Int) ≤ (H (v0 : Int).toNat 18)) ∧ ∃ n20 : Nat, (K[((H (v0 : Int).toNat 18) : Int).toNat]? = some (20, n20)) ∧ ((0 : Int) ≤ v5) ∧ ((v5 : Int) < n20) ∧ (inL (v3 + (H ((H (v0 : Int).toNat 18) : Int).toNat (v5 : Int).toNat))) ∧ (inI (v5 + 1)) ∧ FX12_at_5 d K H q (v0) (v1) (v2) ((v3 + (H ((H (v0 : Int).toNat 18) : Int).toNat (v5 : Int).toNat))) ((v5 + 1))))))) : FX12_at_5 d K H q (v0) (v1) (v2) (v3) (v5) := by
  unfold FX12_at_5
  refine r_iload 4 dX12_at_5 rfl ?_
  refine r_aload_n 0 dX12_at_7 rfl rfl ?_
  obtain ⟨h1, h⟩ := h
  obtain ⟨h2, h⟩ := h
  refine r_getf cls12 13 dX12_at_8 (by decide) fl_RX12_34 rfl h1 h2 ?_
  refine r_iload_n 1 dX12_at_11 rfl rfl ?_
  obtain ⟨h3, h⟩ := h
  obtain ⟨n4, h⟩ := h
  obtain ⟨h5, h⟩ := h
  obtain ⟨h6, h⟩ := h
  obtain ⟨h7, h⟩ := h
  refine r_iald n4 dX12_at_12 h3 h5 h6 h7 ?_
  refine r_icmp_ge (tgt := 53) dX12_at_13 (by decide) (fun c8 => ?_) (fun c8 => ?_)
  · replace h := h.1 c8
    refine r_lload_n 3 dX12_at_53 rfl rfl ?_
    exact r_lret dX12_at_54 rfl ⟨rfl, _, rfl, h⟩
  · replace h := h.2 c8
    refine r_lload_n 3 dX12_at_16 rfl rfl ?_
    refine r_aload_n 0 dX12_at_17 rfl rfl ?_
    refine r_getf cls12 16 dX12_at_18 (by decide) fl_RX12_43 rfl h1 h2 ?_
    refine r_bipush dX12_at_21 (by decide) (by decide) ?_
    refine r_iload_n 1 dX12_at_23 rfl rfl ?_
    obtain ⟨h9, h⟩ := h
    refine r_imul dX12_at_24 h9 ?_
    refine r_iload 4 dX12_at_25 rfl ?_
    obtain ⟨h10, h⟩ := h
    refine r_iadd dX12_at_27 h10 ?_
    obtain ⟨h11, h⟩ := h
    obtain ⟨n12, h⟩ := h
    obtain ⟨h13, h⟩ := h
    obtain ⟨h14, h⟩ := h
    obtain ⟨h15, h⟩ := h
    refine r_iald n12 dX12_at_28 h11 h13 h14 h15 ?_
    refine r_iload_n 2 dX12_at_29 rfl rfl ?_
    refine r_icmp_ne (tgt := 44) dX12_at_30 (by decide) (fun c16 => ?_) (fun c16 => ?_)
    · replace h := h.1 c16
      refine r_lconst0 dX12_at_44 ?_
      obtain ⟨h17, h⟩ := h
      refine r_ladd dX12_at_45 h17 ?_
      refine r_lstore_n dX12_at_46 rfl (by decide) rfl ?_
      obtain ⟨h18, h⟩ := h
      refine r_iinc 4 dX12_at_47 (by decide) rfl h18 rfl ?_
      refine r_goto (tgt := 5) dX12_at_50 (by decide) ?_
      refine Fr.fewer [2, 3, 4, 1, 0] rfl ?_
      exact h
    · replace h := h.2 c16
      refine r_aload_n 0 dX12_at_33 rfl rfl ?_
      refine r_getf cls12 18 dX12_at_34 (by decide) fl_RX12_49 rfl h1 h2 ?_
      refine r_iload 4 dX12_at_37 rfl ?_
      obtain ⟨h19, h⟩ := h
      obtain ⟨n20, h⟩ := h
      obtain ⟨h21, h⟩ := h
      obtain ⟨h22, h⟩ := h
      obtain ⟨h23, h⟩ := h
      refine r_iald n20 dX12_at_39 h19 h21 h22 h23 ?_
      refine r_i2l dX12_at_40 ?_
      refine r_goto (tgt := 45) dX12_at_41 (by decide) ?_
      obtain ⟨h24, h⟩ := h
      refine r_ladd dX12_at_45 h24 ?_
      refine r_lstore_n dX12_at_46 rfl (by decide) rfl ?_
      obtain ⟨h25, h⟩ := h
      refine r_iinc 4 dX12_at_47 (by decide) rfl h25 rfl ?_
      refine r_goto (tgt := 5) dX12_at_50 (by decide) ?_
      refine Fr.fewer [2, 3, 4, 1, 0] rfl ?_
      exact h
set_option maxHeartbeats 4000000 in
set_option maxRecDepth 20000 in
theorem eX12_at {d : Nat} {K : Shp} {H : Mem} {q : Int → Mem → Prop} {v0 v1 v2 : Int} (h : inI v1 → inI v2 → Rng K H → FX12_at_0 d K H q v0 v1 v2) : Cl mX12_at d [(2, v0), (0, v1), (0, v2)] K H q := Call.of rfl (Nat.le_of_ble_eq_true rfl) (fun o r => h (o (0, v1) (by simp)) (o (0, v2) (by simp)) r)
def FX12_go_0 (d : Nat) (K : Shp) (H : Mem) (q : Mem → Prop) (v0 : Int) (v1 : Int) (v2 : Int) (v4 : Int) : Prop := Fr mX12_go (d + 1) 0 0 none 0 [(0, (2, v0)), (1, (0, v1)), (2, (1, v2)), (4, (0, v4))] [] K H (qv K q)
def FX12_go_14 (d : Nat) (K : Shp) (H : Mem) (q : Mem → Prop) (v0 : Int) (v1 : Int) (v2 : Int) (v4 : Int) (v5 : Int) (v7 : Int) (v9 : Int) : Prop := Fr mX12_go (d + 1) 0 0 none 14 [(0, (2, v0)), (1, (0, v1)), (2, (1, v2)), (4, (0, v4)), (5, (1, v5)), (7, (1, v7)), (9, (0, v9))] [] K H (qv K q)
def FX12_go_94 (d : Nat) (K : Shp) (H : Mem) (q : Mem → Prop) (v0 : Int) (v1 : Int) (v2 : Int) (v4 : Int) (v5 : Int) (v7 : Int) (v9 : Int) (v10 : Int) : Prop := Fr mX12_go (d + 1) 0 0 none 94 [(0, (2, v0)), (1, (0, v1)), (2, (1, v2)), (4, (0, v4)), (5, (1, v5)), (7, (1, v7)), (9, (0, v9)), (10, (0, v10))] [] K H (qv K q)
def FX12_go_204 (d : Nat) (K : Shp) (H : Mem) (q : Mem → Prop) (v0 : Int) (v1 : Int) (v2 : Int) (v4 : Int) (v5 : Int) (v7 : Int) (v9 : Int) (v10 : Int) (v11 : Int) (s0 : Int) : Prop := Fr mX12_go (d + 1) 0 0 none 204 [(0, (2, v0)), (1, (0, v1)), (2, (1, v2)), (4, (0, v4)), (5, (1, v5)), (7, (1, v7)), (9, (0, v9)), (10, (0, v10)), (11, (1, v11))] [(0, s0)] K H (qv K q)
def FX12_go_341 (d : Nat) (K : Shp) (H : Mem) (q : Mem → Prop) (v0 : Int) (v1 : Int) (v2 : Int) (v4 : Int) (v5 : Int) (v7 : Int) (v9 : Int) (v10 : Int) : Prop := Fr mX12_go (d + 1) 0 0 none 341 [(0, (2, v0)), (1, (0, v1)), (2, (1, v2)), (4, (0, v4)), (5, (1, v5)), (7, (1, v7)), (9, (0, v9)), (10, (0, v10))] [] K H (qv K q)
def FX12_go_316 (d : Nat) (K : Shp) (H : Mem) (q : Mem → Prop) (v0 : Int) (v1 : Int) (v2 : Int) (v4 : Int) (v5 : Int) (v7 : Int) (v9 : Int) (v10 : Int) (v11 : Int) (v18 : Int) : Prop := Fr mX12_go (d + 1) 0 0 none 316 [(0, (2, v0)), (1, (0, v1)), (2, (1, v2)), (4, (0, v4)), (5, (1, v5)), (7, (1, v7)), (9, (0, v9)), (10, (0, v10)), (11, (1, v11)), (18, (1, v18))] [] K H (qv K q)
set_option maxHeartbeats 4000000 in
set_option maxRecDepth 20000 in
theorem bX12_go_0 {d : Nat} {K : Shp} {H : Mem} {q : Mem → Prop} {v0 v1 v2 v4 : Int} (h : ((0 : Int) ≤ v0) ∧ (K[(v0 : Int).toNat]? = some (12, 51)) ∧ Ci mX12_pulls d [(2, v0)] K H (fun x4 H3 => (inI (-x4)) ∧ FX12_go_14 d K H3 q (v0) (v1) (v2) (v4) ((-x4)) (0) (0))) : FX12_go_0 d K H q (v0) (v1) (v2) (v4) := by
  unfold FX12_go_0
  refine r_aload_n 0 dX12_go_0 rfl rfl ?_
  obtain ⟨h1, h⟩ := h
  obtain ⟨h2, h⟩ := h
  refine r_invV (M := mX12_go) (As := []) (st := []) (X := v0) (mc := 0) (ms := 0) (fc := 0) (fs := 0) h ok_X12_pulls cls12 im_X12_pulls se_X12_pulls ml_RX12_191 dX12_go_1 rfl h1 h2 (Nat.le_of_ble_eq_true rfl) rfl ?_
  rintro r K1 H3 ⟨rfl, x4, rfl, h⟩ -
  show Fr mX12_go (d + 1) 0 0 none 4 [(0, (2, v0)), (1, (0, v1)), (2, (1, v2)), (4, (0, v4))] [(0, x4)] _ H3 _
  obtain ⟨h5, h⟩ := h
  refine r_ineg dX12_go_4 h5 ?_
  refine r_i2l dX12_go_5 ?_
  refine r_lstore dX12_go_6 (by decide) rfl ?_
  refine r_lconst0 dX12_go_8 ?_
  refine r_lstore dX12_go_9 (by decide) rfl ?_
  refine r_iconst dX12_go_11 (by decide) (by decide) ?_
  refine r_istore dX12_go_12 (by decide) rfl ?_
  refine Fr.fewer [3, 4, 5, 6, 2, 1, 0] rfl ?_
  exact h
set_option maxHeartbeats 4000000 in
set_option maxRecDepth 20000 in
theorem bX12_go_14 {d : Nat} {K : Shp} {H : Mem} {q : Mem → Prop} {v0 v1 v2 v4 v5 v7 v9 : Int} (h : ((0 : Int) ≤ v0) ∧ (K[(v0 : Int).toNat]? = some (12, 51)) ∧ ((0 : Int) ≤ (H (v0 : Int).toNat 13)) ∧ ∃ n4 : Nat, (K[((H (v0 : Int).toNat 13) : Int).toNat]? = some (20, n4)) ∧ ((0 : Int) ≤ v1) ∧ ((v1 : Int) < n4) ∧ ((¬ (v9 : Int) < (H ((H (v0 : Int).toNat 13) : Int).toNat (v1 : Int).toNat) → (((v4 : Int) = 0 → (((v4 : Int) = 0 → FX12_go_94 d K H q (v0) (v1) (v2) (v4) (v5) (v7) (1) (0)) ∧ (¬ (v4 : Int) = 0 → FX12_go_94 d K H q (v0) (v1) (v2) (v4) (v5) (v7) (1) (100)))) ∧ (¬ (v4 : Int) = 0 → (((v4 : Int) = 0 → FX12_go_94 d K H q (v0) (v1) (v2) (v4) (v5) (v7) ((-1)) (0)) ∧ (¬ (v4 : Int) = 0 → FX12_go_94 d K H q (v0) (v1) (v2) (v4) (v5) (v7) ((-1)) (100)))))) ∧ ((v9 : Int) < (H ((H (v0 : Int).toNat 13) : Int).toNat (v1 : Int).toNat) → ((0 : Int) ≤ (H (v0 : Int).toNat 18)) ∧ ∃ n13 : Nat, (K[((H (v0 : Int).toNat 18) : Int).toNat]? = some (20, n13)) ∧ ((0 : Int) ≤ v9) ∧ ((v9 : Int) < n13) ∧ (inL (2 * (H ((H (v0 : Int).toNat 18) : Int).toNat (v9 : Int).toNat))) ∧ (inI (6 * v1)) ∧ (inI ((6 * v1) + v9)) ∧ ((0 : Int) ≤ (H (v0 : Int).toNat 16)) ∧ ∃ n21 : Nat, (K[((H (v0 : Int).toNat 16) : Int).toNat]? = some (20, n21)) ∧ ((0 : Int) ≤ ((6 * v1) + v9)) ∧ ((((6 * v1) + v9) : Int) < n21) ∧ ((0 : Int) ≤ (H (v0 : Int).toNat 11)) ∧ ∃ n26 : Nat, (K[((H (v0 : Int).toNat 11) : Int).toNat]? = some (20, n26)) ∧ ((v1 : Int) < n26) ∧ (inI ((H ((H (v0 : Int).toNat 16) : Int).toNat (((6 * v1) + v9) : Int).toNat) - (H ((H (v0 : Int).toNat 11) : Int).toNat (v1 : Int).toNat))) ∧ (inL ((2 * (H ((H (v0 : Int).toNat 18) : Int).toNat (v9 : Int).toNat)) * ((H ((H (v0 : Int).toNat 16) : Int).toNat (((6 * v1) + v9) : Int).toNat) - (H ((H (v0 : Int).toNat 11) : Int).toNat (v1 : Int).toNat)))) ∧ (inL (v7 - ((2 * (H ((H (v0 : Int).toNat 18) : Int).toNat (v9 : Int).toNat)) * ((H ((H (v0 : Int).toNat 16) : Int).toNat (((6 * v1) + v9) : Int).toNat) - (H ((H (v0 : Int).toNat 11) : Int).toNat (v1 : Int).toNat))))) ∧ (inI (v9 + 1)) ∧ FX12_go_14 d K H q (v0) (v1) (v2) (v4) (v5) ((v7 - ((2 * (H ((H (v0 : Int).toNat 18) : Int).toNat (v9 : Int).toNat)) * ((H ((H (v0 : Int).toNat 16) : Int).toNat (((6 * v1) + v9) : Int).toNat) - (H ((H (v0 : Int).toNat 11) : Int).toNat (v1 : Int).toNat))))) ((v9 + 1))))) : FX12_go_14 d K H q (v0) (v1) (v2) (v4) (v5) (v7) (v9) := by
  unfold FX12_go_14
  refine r_iload 6 dX12_go_14 rfl ?_
  refine r_aload_n 0 dX12_go_16 rfl rfl ?_
  obtain ⟨h1, h⟩ := h
  obtain ⟨h2, h⟩ := h
  refine r_getf cls12 13 dX12_go_17 (by decide) fl_RX12_34 rfl h1 h2 ?_
  refine r_iload_n 1 dX12_go_20 rfl rfl ?_
  obtain ⟨h3, h⟩ := h
  obtain ⟨n4, h⟩ := h
  obtain ⟨h5, h⟩ := h
  obtain ⟨h6, h⟩ := h
  obtain ⟨h7, h⟩ := h
  refine r_iald n4 dX12_go_21 h3 h5 h6 h7 ?_
  refine r_icmp_ge (tgt := 69) dX12_go_22 (by decide) (fun c8 => ?_) (fun c8 => ?_)
  · replace h := h.1 c8
    refine r_iload 3 dX12_go_69 rfl ?_
    refine r_if_eq (tgt := 78) dX12_go_71 (by decide) (fun c9 => ?_) (fun c9 => ?_)
    · replace h := h.1 c9
      refine r_iconst dX12_go_78 (by decide) (by decide) ?_
      refine r_istore dX12_go_79 (by decide) rfl ?_
      refine r_iload 4 dX12_go_81 rfl ?_
      refine r_if_eq (tgt := 91) dX12_go_83 (by decide) (fun c10 => ?_) (fun c10 => ?_)
      · replace h := h.1 c10
        refine r_iconst dX12_go_91 (by decide) (by decide) ?_
        refine r_istore dX12_go_92 (by decide) rfl ?_
        refine Fr.fewer [2, 3, 4, 5, 6, 7, 1, 0] rfl ?_
        exact h
      · replace h := h.2 c10
        refine r_bipush dX12_go_86 (by decide) (by decide) ?_
        refine r_goto (tgt := 92) dX12_go_88 (by decide) ?_
        refine r_istore dX12_go_92 (by decide) rfl ?_
        refine Fr.fewer [2, 3, 4, 5, 6, 7, 1, 0] rfl ?_
        exact h
    · replace h := h.2 c9
      refine r_iconst dX12_go_74 (by decide) (by decide) ?_
      refine r_goto (tgt := 79) dX12_go_75 (by decide) ?_
      refine r_istore dX12_go_79 (by decide) rfl ?_
      refine r_iload 4 dX12_go_81 rfl ?_
      refine r_if_eq (tgt := 91) dX12_go_83 (by decide) (fun c11 => ?_) (fun c11 => ?_)
      · replace h := h.1 c11
        refine r_iconst dX12_go_91 (by decide) (by decide) ?_
        refine r_istore dX12_go_92 (by decide) rfl ?_
        refine Fr.fewer [2, 3, 4, 5, 6, 7, 1, 0] rfl ?_
        exact h
      · replace h := h.2 c11
        refine r_bipush dX12_go_86 (by decide) (by decide) ?_
        refine r_goto (tgt := 92) dX12_go_88 (by decide) ?_
        refine r_istore dX12_go_92 (by decide) rfl ?_
        refine Fr.fewer [2, 3, 4, 5, 6, 7, 1, 0] rfl ?_
        exact h
  · replace h := h.2 c8
    refine r_lload 5 dX12_go_25 rfl ?_
    refine r_ldc2 (x := 2) dX12_go_27 kl_RX12_201 (by decide) (by decide) ?_
    refine r_aload_n 0 dX12_go_30 rfl rfl ?_
    refine r_getf cls12 18 dX12_go_31 (by decide) fl_RX12_49 rfl h1 h2 ?_
    refine r_iload 6 dX12_go_34 rfl ?_
    obtain ⟨h12, h⟩ := h
    obtain ⟨n13, h⟩ := h
    obtain ⟨h14, h⟩ := h
    obtain ⟨h15, h⟩ := h
    obtain ⟨h16, h⟩ := h
    refine r_iald n13 dX12_go_36 h12 h14 h15 h16 ?_
    refine r_i2l dX12_go_37 ?_
    obtain ⟨h17, h⟩ := h
    refine r_lmul dX12_go_38 h17 ?_
    refine r_aload_n 0 dX12_go_39 rfl rfl ?_
    refine r_getf cls12 16 dX12_go_40 (by decide) fl_RX12_43 rfl h1 h2 ?_
    refine r_bipush dX12_go_43 (by decide) (by decide) ?_
    refine r_iload_n 1 dX12_go_45 rfl rfl ?_
    obtain ⟨h18, h⟩ := h
    refine r_imul dX12_go_46 h18 ?_
    refine r_iload 6 dX12_go_47 rfl ?_
    obtain ⟨h19, h⟩ := h
    refine r_iadd dX12_go_49 h19 ?_
    obtain ⟨h20, h⟩ := h
    obtain ⟨n21, h⟩ := h
    obtain ⟨h22, h⟩ := h
    obtain ⟨h23, h⟩ := h
    obtain ⟨h24, h⟩ := h
    refine r_iald n21 dX12_go_50 h20 h22 h23 h24 ?_
    refine r_aload_n 0 dX12_go_51 rfl rfl ?_
    refine r_getf cls12 11 dX12_go_52 (by decide) fl_RX12_28 rfl h1 h2 ?_
    refine r_iload_n 1 dX12_go_55 rfl rfl ?_
    obtain ⟨h25, h⟩ := h
    obtain ⟨n26, h⟩ := h
    obtain ⟨h27, h⟩ := h
    obtain ⟨h28, h⟩ := h
    refine r_iald n26 dX12_go_56 h25 h27 h6 h28 ?_
    obtain ⟨h29, h⟩ := h
    refine r_isub dX12_go_57 h29 ?_
    refine r_i2l dX12_go_58 ?_
    obtain ⟨h30, h⟩ := h
    refine r_lmul dX12_go_59 h30 ?_
    obtain ⟨h31, h⟩ := h
    refine r_lsub dX12_go_60 h31 ?_
    refine r_lstore dX12_go_61 (by decide) rfl ?_
    obtain ⟨h32, h⟩ := h
    refine r_iinc 6 dX12_go_63 (by decide) rfl h32 rfl ?_
    refine r_goto (tgt := 14) dX12_go_66 (by decide) ?_
    refine Fr.fewer [2, 3, 4, 5, 6, 1, 0] rfl ?_
    exact h
set_option maxHeartbeats 4000000 in
set_option maxRecDepth 20000 in
theorem bX12_go_94 {d : Nat} {K : Shp} {H : Mem} {q : Mem → Prop} {v0 v1 v2 v4 v5 v7 v9 v10 : Int} (h : (((v10 : Int) < 0 → q H) ∧ (¬ (v10 : Int) < 0 → ((¬ (v10 : Int) ≤ 100 → q H) ∧ ((v10 : Int) ≤ 100 → ((0 : Int) ≤ v0) ∧ (K[(v0 : Int).toNat]? = some (12, 51)) ∧ ((0 : Int) ≤ (H (v0 : Int).toNat 11)) ∧ ∃ n6 : Nat, (K[((H (v0 : Int).toNat 11) : Int).toNat]? = some (20, n6)) ∧ ((0 : Int) ≤ v1) ∧ ((v1 : Int) < n6) ∧ (inI (v10 - (H ((H (v0 : Int).toNat 11) : Int).toNat (v1 : Int).toNat))) ∧ Cl mX12_at d [(2, v0), (0, v1), (0, v10)] K H (fun x12 H11 => (inL (2 * x12)) ∧ (inL (v2 - v5)) ∧ ((¬ ((v2 - v5) : Int) ≤ (2 * x12) → (inL (v5 + (2 * x12))) ∧ (inL (2 * (2 * x12))) ∧ (inL ((2 * (2 * x12)) * (v10 - (H ((H (v0 : Int).toNat 11) : Int).toNat (v1 : Int).toNat)))) ∧ (inL (v7 + ((2 * (2 * x12)) * (v10 - (H ((H (v0 : Int).toNat 11) : Int).toNat (v1 : Int).toNat))))) ∧ (((v4 : Int) = 0 → FX12_go_204 d K H11 q (v0) (v1) (v2) (v4) ((v5 + (2 * x12))) ((v7 + ((2 * (2 * x12)) * (v10 - (H ((H (v0 : Int).toNat 11) : Int).toNat (v1 : Int).toNat))))) (v9) (v10) ((v10 - (H ((H (v0 : Int).toNat 11) : Int).toNat (v1 : Int).toNat))) (v10)) ∧ (¬ (v4 : Int) = 0 → (inI (v10 - 1)) ∧ FX12_go_204 d K H11 q (v0) (v1) (v2) (v4) ((v5 + (2 * x12))) ((v7 + ((2 * (2 * x12)) * (v10 - (H ((H (v0 : Int).toNat 11) : Int).toNat (v1 : Int).toNat))))) (v9) (v10) ((v10 - (H ((H (v0 : Int).toNat 11) : Int).toNat (v1 : Int).toNat))) ((v10 - 1))))) ∧ (((v2 - v5) : Int) ≤ (2 * x12) → (inL (2 * (v2 - v5))) ∧ (inL ((2 * (v2 - v5)) * (v10 - (H ((H (v0 : Int).toNat 11) : Int).toNat (v1 : Int).toNat)))) ∧ (inL (v7 + ((2 * (v2 - v5)) * (v10 - (H ((H (v0 : Int).toNat 11) : Int).toNat (v1 : Int).toNat))))) ∧ Cv mX12_found d [(2, v0), (1, (v7 + ((2 * (v2 - v5)) * (v10 - (H ((H (v0 : Int).toNat 11) : Int).toNat (v1 : Int).toNat))))), (1, 2), (1, v10), (1, 1)] K H11 (fun H25 => q H25))))))))) : FX12_go_94 d K H q (v0) (v1) (v2) (v4) (v5) (v7) (v9) (v10) := by
  unfold FX12_go_94
  refine r_iload 7 dX12_go_94 rfl ?_
  refine r_if_lt (tgt := 351) dX12_go_96 (by decide) (fun c1 => ?_) (fun c1 => ?_)
  · replace h := h.1 c1
    exact r_vret dX12_go_351 rfl ⟨rfl, rfl, h⟩
  · replace h := h.2 c1
    refine r_iload 7 dX12_go_99 rfl ?_
    refine r_bipush dX12_go_101 (by decide) (by decide) ?_
    refine r_icmp_gt (tgt := 351) dX12_go_103 (by decide) (fun c2 => ?_) (fun c2 => ?_)
    · replace h := h.1 c2
      exact r_vret dX12_go_351 rfl ⟨rfl, rfl, h⟩
    · replace h := h.2 c2
      refine r_iload 7 dX12_go_106 rfl ?_
      refine r_aload_n 0 dX12_go_108 rfl rfl ?_
      obtain ⟨h3, h⟩ := h
      obtain ⟨h4, h⟩ := h
      refine r_getf cls12 11 dX12_go_109 (by decide) fl_RX12_28 rfl h3 h4 ?_
      refine r_iload_n 1 dX12_go_112 rfl rfl ?_
      obtain ⟨h5, h⟩ := h
      obtain ⟨n6, h⟩ := h
      obtain ⟨h7, h⟩ := h
      obtain ⟨h8, h⟩ := h
      obtain ⟨h9, h⟩ := h
      refine r_iald n6 dX12_go_113 h5 h7 h8 h9 ?_
      obtain ⟨h10, h⟩ := h
      refine r_isub dX12_go_114 h10 ?_
      refine r_i2l dX12_go_115 ?_
      refine r_lstore dX12_go_116 (by decide) rfl ?_
      refine r_ldc2 (x := 2) dX12_go_118 kl_RX12_201 (by decide) (by decide) ?_
      refine r_aload_n 1 dX12_go_121 rfl rfl ?_
      refine r_iload_n 2 dX12_go_122 rfl rfl ?_
      refine r_iload 8 dX12_go_123 rfl ?_
      refine r_invV (M := mX12_go) (As := [(0, v1), (0, v10)]) (st := [(1, 2)]) (X := v0) (mc := 0) (ms := 0) (fc := 0) (fs := 0) h ok_X12_at cls12 im_X12_at se_X12_at ml_RX12_203 dX12_go_125 rfl h3 h4 (Nat.le_of_ble_eq_true rfl) rfl ?_
      rintro r K1 H11 ⟨rfl, x12, rfl, h⟩ -
      show Fr mX12_go (d + 1) 0 0 none 128 [(11, (1, (v10 - (H ((H (v0 : Int).toNat 11) : Int).toNat (v1 : Int).toNat)))), (0, (2, v0)), (1, (0, v1)), (2, (1, v2)), (4, (0, v4)), (5, (1, v5)), (7, (1, v7)), (9, (0, v9)), (10, (0, v10))] [(1, x12), (1, 2)] _ H11 _
      obtain ⟨h13, h⟩ := h
      refine r_lmul dX12_go_128 h13 ?_
      refine r_lstore dX12_go_129 (by decide) rfl ?_
      refine r_lload_n 4 dX12_go_131 rfl rfl ?_
      refine r_lload 6 dX12_go_132 rfl ?_
      obtain ⟨h14, h⟩ := h
      refine r_lsub dX12_go_134 h14 ?_
      refine r_lstore dX12_go_135 (by decide) rfl ?_
      refine r_lload 0 dX12_go_137 rfl ?_
      refine r_lload 1 dX12_go_139 rfl ?_
      refine r_lcmp dX12_go_141 ?_
      refine r_if_gt (tgt := 169) dX12_go_142 (by decide) (fun c15 => ?_) (fun c15 => ?_)
      · replace h := h.1 (fun q => c15 (cmpL_le.mpr q))
        refine r_lload 7 dX12_go_169 rfl ?_
        refine r_lload 1 dX12_go_171 rfl ?_
        obtain ⟨h16, h⟩ := h
        refine r_ladd dX12_go_173 h16 ?_
        refine r_lstore dX12_go_174 (by decide) rfl ?_
        refine r_lload 8 dX12_go_176 rfl ?_
        refine r_ldc2 (x := 2) dX12_go_178 kl_RX12_201 (by decide) (by decide) ?_
        refine r_lload 2 dX12_go_181 rfl ?_
        obtain ⟨h17, h⟩ := h
        refine r_lmul dX12_go_183 h17 ?_
        refine r_lload 3 dX12_go_184 rfl ?_
        obtain ⟨h18, h⟩ := h
        refine r_lmul dX12_go_186 h18 ?_
        obtain ⟨h19, h⟩ := h
        refine r_ladd dX12_go_187 h19 ?_
        refine r_lstore dX12_go_188 (by decide) rfl ?_
        refine r_iload 8 dX12_go_190 rfl ?_
        refine r_if_eq (tgt := 202) dX12_go_192 (by decide) (fun c20 => ?_) (fun c20 => ?_)
        · replace h := h.1 c20
          refine r_iload 10 dX12_go_202 rfl ?_
          refine Fr.fewer [5, 6, 7, 8, 1, 0, 9, 10, 4] rfl ?_
          exact h
        · replace h := h.2 c20
          refine r_iload 10 dX12_go_195 rfl ?_
          refine r_iconst dX12_go_197 (by decide) (by decide) ?_
          obtain ⟨h21, h⟩ := h
          refine r_isub dX12_go_198 h21 ?_
          refine r_goto (tgt := 204) dX12_go_199 (by decide) ?_
          refine Fr.fewer [5, 6, 7, 8, 1, 0, 9, 10, 4] rfl ?_
          exact h
      · replace h := h.2 (cmpL_le.mp c15)
        refine r_aload_n 3 dX12_go_145 rfl rfl ?_
        refine r_lload 8 dX12_go_146 rfl ?_
        refine r_ldc2 (x := 2) dX12_go_148 kl_RX12_201 (by decide) (by decide) ?_
        refine r_lload 0 dX12_go_151 rfl ?_
        obtain ⟨h22, h⟩ := h
        refine r_lmul dX12_go_153 h22 ?_
        refine r_lload 2 dX12_go_154 rfl ?_
        obtain ⟨h23, h⟩ := h
        refine r_lmul dX12_go_156 h23 ?_
        obtain ⟨h24, h⟩ := h
        refine r_ladd dX12_go_157 h24 ?_
        refine r_ldc2 (x := 2) dX12_go_158 kl_RX12_201 (by decide) (by decide) ?_
        refine r_iload 10 dX12_go_161 rfl ?_
        refine r_i2l dX12_go_163 ?_
        refine r_lconst1 dX12_go_164 ?_
        refine r_invV (M := mX12_go) (As := [(1, (v7 + ((2 * (v2 - v5)) * (v10 - (H ((H (v0 : Int).toNat 11) : Int).toNat (v1 : Int).toNat))))), (1, 2), (1, v10), (1, 1)]) (st := []) (X := v0) (mc := 0) (ms := 0) (fc := 0) (fs := 0) h ok_X12_found cls12 im_X12_found se_X12_found ml_RX12_207 dX12_go_165 rfl h3 h4 (Nat.le_of_ble_eq_true rfl) rfl ?_
        rintro r K1 H25 ⟨rfl, rfl, h⟩ -
        show Fr mX12_go (d + 1) 0 0 none 168 [(15, (1, (v2 - v5))), (13, (1, (2 * x12))), (11, (1, (v10 - (H ((H (v0 : Int).toNat 11) : Int).toNat (v1 : Int).toNat)))), (0, (2, v0)), (1, (0, v1)), (2, (1, v2)), (4, (0, v4)), (5, (1, v5)), (7, (1, v7)), (9, (0, v9)), (10, (0, v10))] [] _ H25 _
        exact r_vret dX12_go_168 rfl ⟨rfl, rfl, h⟩
set_option maxHeartbeats 4000000 in
set_option maxRecDepth 20000 in
theorem bX12_go_204 {d : Nat} {K : Shp} {H : Mem} {q : Mem → Prop} {v0 v1 v2 v4 v5 v7 v9 v10 v11 s0 : Int} (h : (((s0 : Int) < 0 → FX12_go_341 d K H q (v0) (v1) (v2) (v4) (v5) (v7) (v9) (v10)) ∧ (¬ (s0 : Int) < 0 → (((s0 : Int) < 100 → ((0 : Int) ≤ v0) ∧ (K[(v0 : Int).toNat]? = some (12, 51)) ∧ ((0 : Int) ≤ (H (v0 : Int).toNat 10)) ∧ ∃ n6 : Nat, (K[((H (v0 : Int).toNat 10) : Int).toNat]? = some (20, n6)) ∧ ((0 : Int) ≤ v1) ∧ ((v1 : Int) < n6) ∧ (inI (100 * v1)) ∧ (inI ((100 * v1) + s0)) ∧ ((0 : Int) ≤ (H (v0 : Int).toNat 15)) ∧ ∃ n13 : Nat, (K[((H (v0 : Int).toNat 15) : Int).toNat]? = some (20, n13)) ∧ ((0 : Int) ≤ ((100 * v1) + s0)) ∧ ((((100 * v1) + s0) : Int) < n13) ∧ (inL ((H ((H (v0 : Int).toNat 10) : Int).toNat (v1 : Int).toNat) * (H ((H (v0 : Int).toNat 15) : Int).toNat (((100 * v1) + s0) : Int).toNat))) ∧ (inL (v2 - v5)) ∧ (((((H ((H (v0 : Int).toNat 10) : Int).toNat (v1 : Int).toNat) * (H ((H (v0 : Int).toNat 15) : Int).toNat (((100 * v1) + s0) : Int).toNat)) : Int) ≤ 0 → FX12_go_316 d K H q (v0) (v1) (v2) (v4) (v5) (v7) (v9) (v10) (v11) (((H ((H (v0 : Int).toNat 10) : Int).toNat (v1 : Int).toNat) * (H ((H (v0 : Int).toNat 15) : Int).toNat (((100 * v1) + s0) : Int).toNat)))) ∧ (¬ (((H ((H (v0 : Int).toNat 10) : Int).toNat (v1 : Int).toNat) * (H ((H (v0 : Int).toNat 15) : Int).toNat (((100 * v1) + s0) : Int).toNat)) : Int) ≤ 0 → ((¬ ((v2 - v5) : Int) ≤ ((H ((H (v0 : Int).toNat 10) : Int).toNat (v1 : Int).toNat) * (H ((H (v0 : Int).toNat 15) : Int).toNat (((100 * v1) + s0) : Int).toNat)) → FX12_go_316 d K H q (v0) (v1) (v2) (v4) (v5) (v7) (v9) (v10) (v11) (((H ((H (v0 : Int).toNat 10) : Int).toNat (v1 : Int).toNat) * (H ((H (v0 : Int).toNat 15) : Int).toNat (((100 * v1) + s0) : Int).toNat)))) ∧ (((v2 - v5) : Int) ≤ ((H ((H (v0 : Int).toNat 10) : Int).toNat (v1 : Int).toNat) * (H ((H (v0 : Int).toNat 15) : Int).toNat (((100 * v1) + s0) : Int).toNat)) → (inL (2 * (v2 - v5))) ∧ (inL ((2 * (v2 - v5)) * v11)) ∧ (inL (v7 + ((2 * (v2 - v5)) * v11))) ∧ (inL ((v7 + ((2 * (v2 - v5)) * v11)) * ((H ((H (v0 : Int).toNat 10) : Int).toNat (v1 : Int).toNat) * (H ((H (v0 : Int).toNat 15) : Int).toNat (((100 * v1) + s0) : Int).toNat)))) ∧ (inL (v9 * (v2 - v5))) ∧ (inL ((v9 * (v2 - v5)) * (v2 - v5))) ∧ (inL (((v7 + ((2 * (v2 - v5)) * v11)) * ((H ((H (v0 : Int).toNat 10) : Int).toNat (v1 : Int).toNat) * (H ((H (v0 : Int).toNat 15) : Int).toNat (((100 * v1) + s0) : Int).toNat))) + ((v9 * (v2 - v5)) * (v2 - v5)))) ∧ (inL (2 * ((H ((H (v0 : Int).toNat 10) : Int).toNat (v1 : Int).toNat) * (H ((H (v0 : Int).toNat 15) : Int).toNat (((100 * v1) + s0) : Int).toNat)))) ∧ (inL (v10 * ((H ((H (v0 : Int).toNat 10) : Int).toNat (v1 : Int).toNat) * (H ((H (v0 : Int).toNat 15) : Int).toNat (((100 * v1) + s0) : Int).toNat)))) ∧ (inL ((v10 * ((H ((H (v0 : Int).toNat 10) : Int).toNat (v1 : Int).toNat) * (H ((H (v0 : Int).toNat 15) : Int).toNat (((100 * v1) + s0) : Int).toNat))) + (v9 * (v2 - v5)))) ∧ Cv mX12_found d [(2, v0), (1, (((v7 + ((2 * (v2 - v5)) * v11)) * ((H ((H (v0 : Int).toNat 10) : Int).toNat (v1 : Int).toNat) * (H ((H (v0 : Int).toNat 15) : Int).toNat (((100 * v1) + s0) : Int).toNat))) + ((v9 * (v2 - v5)) * (v2 - v5)))), (1, (2 * ((H ((H (v0 : Int).toNat 10) : Int).toNat (v1 : Int).toNat) * (H ((H (v0 : Int).toNat 15) : Int).toNat (((100 * v1) + s0) : Int).toNat)))), (1, ((v10 * ((H ((H (v0 : Int).toNat 10) : Int).toNat (v1 : Int).toNat) * (H ((H (v0 : Int).toNat 15) : Int).toNat (((100 * v1) + s0) : Int).toNat))) + (v9 * (v2 - v5)))), (1, ((H ((H (v0 : Int).toNat 10) : Int).toNat (v1 : Int).toNat) * (H ((H (v0 : Int).toNat 15) : Int).toNat (((100 * v1) + s0) : Int).toNat)))] K H (fun H31 => q H31)))))) ∧ (¬ (s0 : Int) < 100 → FX12_go_341 d K H q (v0) (v1) (v2) (v4) (v5) (v7) (v9) (v10)))))) : FX12_go_204 d K H q (v0) (v1) (v2) (v4) (v5) (v7) (v9) (v10) (v11) (s0) := by
  unfold FX12_go_204
  refine r_istore dX12_go_204 (by decide) rfl ?_
  refine r_iload 0 dX12_go_206 rfl ?_
  refine r_if_lt (tgt := 341) dX12_go_208 (by decide) (fun c1 => ?_) (fun c1 => ?_)
  · replace h := h.1 c1
    refine Fr.fewer [1, 2, 3, 4, 5, 6, 7, 8] rfl ?_
    exact h
  · replace h := h.2 c1
    refine r_iload 0 dX12_go_211 rfl ?_
    refine r_bipush dX12_go_213 (by decide) (by decide) ?_
    refine r_icmp_lt (tgt := 221) dX12_go_215 (by decide) (fun c2 => ?_) (fun c2 => ?_)
    · replace h := h.1 c2
      refine r_aload_n 1 dX12_go_221 rfl rfl ?_
      obtain ⟨h3, h⟩ := h
      obtain ⟨h4, h⟩ := h
      refine r_getf cls12 10 dX12_go_222 (by decide) fl_RX12_25 rfl h3 h4 ?_
      refine r_iload_n 2 dX12_go_225 rfl rfl ?_
      obtain ⟨h5, h⟩ := h
      obtain ⟨n6, h⟩ := h
      obtain ⟨h7, h⟩ := h
      obtain ⟨h8, h⟩ := h
      obtain ⟨h9, h⟩ := h
      refine r_iald n6 dX12_go_226 h5 h7 h8 h9 ?_
      refine r_i2l dX12_go_227 ?_
      refine r_aload_n 1 dX12_go_228 rfl rfl ?_
      refine r_getf cls12 15 dX12_go_229 (by decide) fl_RX12_40 rfl h3 h4 ?_
      refine r_bipush dX12_go_232 (by decide) (by decide) ?_
      refine r_iload_n 2 dX12_go_234 rfl rfl ?_
      obtain ⟨h10, h⟩ := h
      refine r_imul dX12_go_235 h10 ?_
      refine r_iload 0 dX12_go_236 rfl ?_
      obtain ⟨h11, h⟩ := h
      refine r_iadd dX12_go_238 h11 ?_
      obtain ⟨h12, h⟩ := h
      obtain ⟨n13, h⟩ := h
      obtain ⟨h14, h⟩ := h
      obtain ⟨h15, h⟩ := h
      obtain ⟨h16, h⟩ := h
      refine r_iald n13 dX12_go_239 h12 h14 h15 h16 ?_
      refine r_i2l dX12_go_240 ?_
      obtain ⟨h17, h⟩ := h
      refine r_lmul dX12_go_241 h17 ?_
      refine r_lstore dX12_go_242 (by decide) rfl ?_
      refine r_lload_n 4 dX12_go_244 rfl rfl ?_
      refine r_lload 6 dX12_go_245 rfl ?_
      obtain ⟨h18, h⟩ := h
      refine r_lsub dX12_go_247 h18 ?_
      refine r_lstore dX12_go_248 (by decide) rfl ?_
      refine r_lload 1 dX12_go_250 rfl ?_
      refine r_lconst0 dX12_go_252 ?_
      refine r_lcmp dX12_go_253 ?_
      refine r_if_le (tgt := 316) dX12_go_254 (by decide) (fun c19 => ?_) (fun c19 => ?_)
      · replace h := h.1 (cmpL_le.mp c19)
        refine Fr.fewer [3, 4, 5, 6, 7, 8, 9, 10, 11, 1] rfl ?_
        exact h
      · replace h := h.2 (fun q => c19 (cmpL_le.mpr q))
        refine r_lload 0 dX12_go_257 rfl ?_
        refine r_lload 1 dX12_go_259 rfl ?_
        refine r_lcmp dX12_go_261 ?_
        refine r_if_gt (tgt := 316) dX12_go_262 (by decide) (fun c20 => ?_) (fun c20 => ?_)
        · replace h := h.1 (fun q => c20 (cmpL_le.mpr q))
          refine Fr.fewer [3, 4, 5, 6, 7, 8, 9, 10, 11, 1] rfl ?_
          exact h
        · replace h := h.2 (cmpL_le.mp c20)
          refine r_aload_n 3 dX12_go_265 rfl rfl ?_
          refine r_lload 8 dX12_go_266 rfl ?_
          refine r_ldc2 (x := 2) dX12_go_268 kl_RX12_201 (by decide) (by decide) ?_
          refine r_lload 0 dX12_go_271 rfl ?_
          obtain ⟨h21, h⟩ := h
          refine r_lmul dX12_go_273 h21 ?_
          refine r_lload 11 dX12_go_274 rfl ?_
          obtain ⟨h22, h⟩ := h
          refine r_lmul dX12_go_276 h22 ?_
          obtain ⟨h23, h⟩ := h
          refine r_ladd dX12_go_277 h23 ?_
          refine r_lload 1 dX12_go_278 rfl ?_
          obtain ⟨h24, h⟩ := h
          refine r_lmul dX12_go_280 h24 ?_
          refine r_iload 9 dX12_go_281 rfl ?_
          refine r_i2l dX12_go_283 ?_
          refine r_lload 0 dX12_go_284 rfl ?_
          obtain ⟨h25, h⟩ := h
          refine r_lmul dX12_go_286 h25 ?_
          refine r_lload 0 dX12_go_287 rfl ?_
          obtain ⟨h26, h⟩ := h
          refine r_lmul dX12_go_289 h26 ?_
          obtain ⟨h27, h⟩ := h
          refine r_ladd dX12_go_290 h27 ?_
          refine r_ldc2 (x := 2) dX12_go_291 kl_RX12_201 (by decide) (by decide) ?_
          refine r_lload 1 dX12_go_294 rfl ?_
          obtain ⟨h28, h⟩ := h
          refine r_lmul dX12_go_296 h28 ?_
          refine r_iload 10 dX12_go_297 rfl ?_
          refine r_i2l dX12_go_299 ?_
          refine r_lload 1 dX12_go_300 rfl ?_
          obtain ⟨h29, h⟩ := h
          refine r_lmul dX12_go_302 h29 ?_
          refine r_iload 9 dX12_go_303 rfl ?_
          refine r_i2l dX12_go_305 ?_
          refine r_lload 0 dX12_go_306 rfl ?_
          refine r_lmul dX12_go_308 h25 ?_
          obtain ⟨h30, h⟩ := h
          refine r_ladd dX12_go_309 h30 ?_
          refine r_lload 1 dX12_go_310 rfl ?_
          refine r_invV (M := mX12_go) (As := [(1, (((v7 + ((2 * (v2 - v5)) * v11)) * ((H ((H (v0 : Int).toNat 10) : Int).toNat (v1 : Int).toNat) * (H ((H (v0 : Int).toNat 15) : Int).toNat (((100 * v1) + s0) : Int).toNat))) + ((v9 * (v2 - v5)) * (v2 - v5)))), (1, (2 * ((H ((H (v0 : Int).toNat 10) : Int).toNat (v1 : Int).toNat) * (H ((H (v0 : Int).toNat 15) : Int).toNat (((100 * v1) + s0) : Int).toNat)))), (1, ((v10 * ((H ((H (v0 : Int).toNat 10) : Int).toNat (v1 : Int).toNat) * (H ((H (v0 : Int).toNat 15) : Int).toNat (((100 * v1) + s0) : Int).toNat))) + (v9 * (v2 - v5)))), (1, ((H ((H (v0 : Int).toNat 10) : Int).toNat (v1 : Int).toNat) * (H ((H (v0 : Int).toNat 15) : Int).toNat (((100 * v1) + s0) : Int).toNat)))]) (st := []) (X := v0) (mc := 0) (ms := 0) (fc := 0) (fs := 0) h ok_X12_found cls12 im_X12_found se_X12_found ml_RX12_207 dX12_go_312 rfl h3 h4 (Nat.le_of_ble_eq_true rfl) rfl ?_
          rintro r K1 H31 ⟨rfl, rfl, h⟩ -
          show Fr mX12_go (d + 1) 0 0 none 315 [(15, (1, (v2 - v5))), (18, (1, ((H ((H (v0 : Int).toNat 10) : Int).toNat (v1 : Int).toNat) * (H ((H (v0 : Int).toNat 15) : Int).toNat (((100 * v1) + s0) : Int).toNat)))), (17, (0, s0)), (0, (2, v0)), (1, (0, v1)), (2, (1, v2)), (4, (0, v4)), (5, (1, v5)), (7, (1, v7)), (9, (0, v9)), (10, (0, v10)), (11, (1, v11))] [] _ H31 _
          exact r_vret dX12_go_315 rfl ⟨rfl, rfl, h⟩
    · replace h := h.2 c2
      refine r_goto (tgt := 341) dX12_go_218 (by decide) ?_
      refine Fr.fewer [1, 2, 3, 4, 5, 6, 7, 8] rfl ?_
      exact h
set_option maxHeartbeats 4000000 in
set_option maxRecDepth 20000 in
theorem bX12_go_341 {d : Nat} {K : Shp} {H : Mem} {q : Mem → Prop} {v0 v1 v2 v4 v5 v7 v9 v10 : Int} (h : (inI (v10 + v9)) ∧ FX12_go_94 d K H q (v0) (v1) (v2) (v4) (v5) (v7) (v9) ((v10 + v9))) : FX12_go_341 d K H q (v0) (v1) (v2) (v4) (v5) (v7) (v9) (v10) := by
  unfold FX12_go_341
  refine r_iload 7 dX12_go_341 rfl ?_
  refine r_iload 6 dX12_go_343 rfl ?_
  obtain ⟨h1, h⟩ := h
  refine r_iadd dX12_go_345 h1 ?_
  refine r_istore dX12_go_346 (by decide) rfl ?_
  refine r_goto (tgt := 94) dX12_go_348 (by decide) ?_
  refine Fr.fewer [1, 2, 3, 4, 5, 6, 7, 0] rfl ?_
  exact h
set_option maxHeartbeats 4000000 in
set_option maxRecDepth 20000 in
theorem bX12_go_316 {d : Nat} {K : Shp} {H : Mem} {q : Mem → Prop} {v0 v1 v2 v4 v5 v7 v9 v10 v11 v18 : Int} (h : (inL (v5 + v18)) ∧ (inL (2 * v11)) ∧ (inL ((2 * v11) + v9)) ∧ (inL (v18 * ((2 * v11) + v9))) ∧ (inL (v7 + (v18 * ((2 * v11) + v9)))) ∧ FX12_go_341 d K H q (v0) (v1) (v2) (v4) ((v5 + v18)) ((v7 + (v18 * ((2 * v11) + v9)))) (v9) (v10)) : FX12_go_316 d K H q (v0) (v1) (v2) (v4) (v5) (v7) (v9) (v10) (v11) (v18) := by
  unfold FX12_go_316
  refine r_lload 4 dX12_go_316 rfl ?_
  refine r_lload 9 dX12_go_318 rfl ?_
  obtain ⟨h1, h⟩ := h
  refine r_ladd dX12_go_320 h1 ?_
  refine r_lstore dX12_go_321 (by decide) rfl ?_
  refine r_lload 5 dX12_go_323 rfl ?_
  refine r_lload 9 dX12_go_325 rfl ?_
  refine r_ldc2 (x := 2) dX12_go_327 kl_RX12_201 (by decide) (by decide) ?_
  refine r_lload 8 dX12_go_330 rfl ?_
  obtain ⟨h2, h⟩ := h
  refine r_lmul dX12_go_332 h2 ?_
  refine r_iload 6 dX12_go_333 rfl ?_
  refine r_i2l dX12_go_335 ?_
  obtain ⟨h3, h⟩ := h
  refine r_ladd dX12_go_336 h3 ?_
  obtain ⟨h4, h⟩ := h
  refine r_lmul dX12_go_337 h4 ?_
  obtain ⟨h5, h⟩ := h
  refine r_ladd dX12_go_338 h5 ?_
  refine r_lstore dX12_go_339 (by decide) rfl ?_
  refine Fr.fewer [2, 3, 4, 5, 1, 0, 6, 7] rfl ?_
  exact h
set_option maxHeartbeats 4000000 in
set_option maxRecDepth 20000 in
theorem eX12_go {d : Nat} {K : Shp} {H : Mem} {q : Mem → Prop} {v0 v1 v2 v4 : Int} (h : inI v1 → inL v2 → inI v4 → Rng K H → FX12_go_0 d K H q v0 v1 v2 v4) : Cv mX12_go (d + 1) [(2, v0), (0, v1), (1, v2), (0, v4)] K H q := Call.of rfl (Nat.le_of_ble_eq_true rfl) (fun o r => h (o (0, v1) (by simp)) (o (1, v2) (by simp)) (o (0, v4) (by simp)) r)
def FX12_found_0 (d : Nat) (K : Shp) (H : Mem) (q : Mem → Prop) (v0 : Int) (v1 : Int) (v3 : Int) (v5 : Int) (v7 : Int) : Prop := Fr mX12_found d 0 0 none 0 [(0, (2, v0)), (1, (1, v1)), (3, (1, v3)), (5, (1, v5)), (7, (1, v7))] [] K H (qv K q)
set_option maxHeartbeats 4000000 in
set_option maxRecDepth 20000 in
theorem bX12_found_0 {d : Nat} {K : Shp} {H : Mem} {q : Mem → Prop} {v0 v1 v3 v5 v7 : Int} (h : ((0 : Int) ≤ v0) ∧ (K[(v0 : Int).toNat]? = some (12, 51)) ∧ ∀ H3 : Mem, H3 = upA H (v0 : Int).toNat (up1 (H (v0 : Int).toNat) 19 v1) → ∀ H4 : Mem, H4 = upA H3 (v0 : Int).toNat (up1 (H3 (v0 : Int).toNat) 20 v3) → ∀ H5 : Mem, H5 = upA H4 (v0 : Int).toNat (up1 (H4 (v0 : Int).toNat) 21 v5) → ∀ H6 : Mem, H6 = upA H5 (v0 : Int).toNat (up1 (H5 (v0 : Int).toNat) 22 v7) → q H6) : FX12_found_0 d K H q (v0) (v1) (v3) (v5) (v7) := by
  unfold FX12_found_0
  refine r_aload_n 0 dX12_found_0 rfl rfl ?_
  refine r_lload_n 1 dX12_found_1 rfl rfl ?_
  obtain ⟨h1, h⟩ := h
  obtain ⟨h2, h⟩ := h
  refine r_putf cls12 19 dX12_found_2 (by decide) rfl fl_RX12_211 rfl h1 h2 (fun o => o) ?_
  replace h := h _ rfl
  generalize upA H (v0 : Int).toNat (up1 (H (v0 : Int).toNat) 19 v1) = H3 at h ⊢
  refine r_aload_n 0 dX12_found_5 rfl rfl ?_
  refine r_lload_n 2 dX12_found_6 rfl rfl ?_
  refine r_putf cls12 20 dX12_found_7 (by decide) rfl fl_RX12_215 rfl h1 h2 (fun o => o) ?_
  replace h := h _ rfl
  generalize upA H3 (v0 : Int).toNat (up1 (H3 (v0 : Int).toNat) 20 v3) = H4 at h ⊢
  refine r_aload_n 0 dX12_found_10 rfl rfl ?_
  refine r_lload 3 dX12_found_11 rfl ?_
  refine r_putf cls12 21 dX12_found_13 (by decide) rfl fl_RX12_218 rfl h1 h2 (fun o => o) ?_
  replace h := h _ rfl
  generalize upA H4 (v0 : Int).toNat (up1 (H4 (v0 : Int).toNat) 21 v5) = H5 at h ⊢
  refine r_aload_n 0 dX12_found_16 rfl rfl ?_
  refine r_lload 4 dX12_found_17 rfl ?_
  refine r_putf cls12 22 dX12_found_19 (by decide) rfl fl_RX12_221 rfl h1 h2 (fun o => o) ?_
  replace h := h _ rfl
  generalize upA H5 (v0 : Int).toNat (up1 (H5 (v0 : Int).toNat) 22 v7) = H6 at h ⊢
  exact r_vret dX12_found_22 rfl ⟨rfl, rfl, h⟩
set_option maxHeartbeats 4000000 in
set_option maxRecDepth 20000 in
theorem eX12_found {d : Nat} {K : Shp} {H : Mem} {q : Mem → Prop} {v0 v1 v3 v5 v7 : Int} (h : inL v1 → inL v3 → inL v5 → inL v7 → Rng K H → FX12_found_0 d K H q v0 v1 v3 v5 v7) : Cv mX12_found d [(2, v0), (1, v1), (1, v3), (1, v5), (1, v7)] K H q := Call.of rfl (Nat.le_of_ble_eq_true rfl) (fun o r => h (o (1, v1) (by simp)) (o (1, v3) (by simp)) (o (1, v5) (by simp)) (o (1, v7) (by simp)) r)
def FX12_isPush_0 (d : Nat) (K : Shp) (H : Mem) (q : Int → Mem → Prop) (v0 : Int) (v1 : Int) (v2 : Int) : Prop := Fr mX12_isPush (d + 1) 0 0 none 0 [(0, (2, v0)), (1, (0, v1)), (2, (0, v2))] [] K H (qi K q)
set_option maxHeartbeats 4000000 in
set_option maxRecDepth 20000 in
theorem bX12_isPush_0 {d : Nat} {K : Shp} {H : Mem} {q : Int → Mem → Prop} {v0 v1 v2 : Int} (h : ((0 : Int) ≤ v0) ∧ (K[(v0 : Int).toNat]? = some (12, 51)) ∧ Ci mX12_greatest d [(2, v0), (0, v1)] K H (fun x4 H3 => ((¬ (v2 : Int) ≤ x4 → q 0 H3) ∧ ((v2 : Int) ≤ x4 → Ci mX12_pulls d [(2, v0)] K H3 (fun x7 H6 => (inI (-x7)) ∧ (((v2 : Int) < (-x7) → q 0 H6) ∧ (¬ (v2 : Int) < (-x7) → q 1 H6))))))) : FX12_isPush_0 d K H q (v0) (v1) (v2) := by
  unfold FX12_isPush_0
  refine r_iload_n 2 dX12_isPush_0 rfl rfl ?_
  refine r_aload_n 0 dX12_isPush_1 rfl rfl ?_
  refine r_iload_n 1 dX12_isPush_2 rfl rfl ?_
  obtain ⟨h1, h⟩ := h
  obtain ⟨h2, h⟩ := h
  refine r_invV (M := mX12_isPush) (As := [(0, v1)]) (st := [(0, v2)]) (X := v0) (mc := 0) (ms := 0) (fc := 0) (fs := 0) h ok_X12_greatest cls12 im_X12_greatest se_X12_greatest ml_RX12_198 dX12_isPush_3 rfl h1 h2 (Nat.le_of_ble_eq_true rfl) rfl ?_
  rintro r K1 H3 ⟨rfl, x4, rfl, h⟩ -
  show Fr mX12_isPush (d + 1) 0 0 none 6 [(0, (2, v0)), (1, (0, v1)), (2, (0, v2))] [(0, x4), (0, v2)] _ H3 _
  refine r_icmp_gt (tgt := 22) dX12_isPush_6 (by decide) (fun c5 => ?_) (fun c5 => ?_)
  · replace h := h.1 c5
    refine r_iconst dX12_isPush_22 (by decide) (by decide) ?_
    exact r_zret dX12_isPush_23 rfl (Or.inl rfl) ⟨rfl, _, rfl, h⟩
  · replace h := h.2 c5
    refine r_iload_n 2 dX12_isPush_9 rfl rfl ?_
    refine r_aload_n 0 dX12_isPush_10 rfl rfl ?_
    refine r_invV (M := mX12_isPush) (As := []) (st := [(0, v2)]) (X := v0) (mc := 0) (ms := 0) (fc := 0) (fs := 0) h ok_X12_pulls cls12 im_X12_pulls se_X12_pulls ml_RX12_191 dX12_isPush_11 rfl h1 h2 (Nat.le_of_ble_eq_true rfl) rfl ?_
    rintro r K1 H6 ⟨rfl, x7, rfl, h⟩ -
    show Fr mX12_isPush (d + 1) 0 0 none 14 [(0, (2, v0)), (1, (0, v1)), (2, (0, v2))] [(0, x7), (0, v2)] _ H6 _
    obtain ⟨h8, h⟩ := h
    refine r_ineg dX12_isPush_14 h8 ?_
    refine r_icmp_lt (tgt := 22) dX12_isPush_15 (by decide) (fun c9 => ?_) (fun c9 => ?_)
    · replace h := h.1 c9
      refine r_iconst dX12_isPush_22 (by decide) (by decide) ?_
      exact r_zret dX12_isPush_23 rfl (Or.inl rfl) ⟨rfl, _, rfl, h⟩
    · replace h := h.2 c9
      refine r_iconst dX12_isPush_18 (by decide) (by decide) ?_
      refine r_goto (tgt := 23) dX12_isPush_19 (by decide) ?_
      exact r_zret dX12_isPush_23 rfl (Or.inr rfl) ⟨rfl, _, rfl, h⟩
set_option maxHeartbeats 4000000 in
set_option maxRecDepth 20000 in
theorem eX12_isPush {d : Nat} {K : Shp} {H : Mem} {q : Int → Mem → Prop} {v0 v1 v2 : Int} (h : inI v1 → inI v2 → Rng K H → FX12_isPush_0 d K H q v0 v1 v2) : Ci mX12_isPush (d + 1) [(2, v0), (0, v1), (0, v2)] K H q := Call.of rfl (Nat.le_of_ble_eq_true rfl) (fun o r => h (o (0, v1) (by simp)) (o (0, v2) (by simp)) r)
def FX12_isNumber_0 (d : Nat) (K : Shp) (H : Mem) (q : Int → Mem → Prop) (v0 : Int) : Prop := Fr mX12_isNumber d 0 0 none 0 [(0, (0, v0))] [] K H (qi K q)
set_option maxHeartbeats 4000000 in
set_option maxRecDepth 20000 in
theorem bX12_isNumber_0 {d : Nat} {K : Shp} {H : Mem} {q : Int → Mem → Prop} {v0 : Int} (h : (((v0 : Int) < (-1000000) → q 0 H) ∧ (¬ (v0 : Int) < (-1000000) → ((¬ (v0 : Int) ≤ 1000000 → q 0 H) ∧ ((v0 : Int) ≤ 1000000 → q 1 H))))) : FX12_isNumber_0 d K H q (v0) := by
  unfold FX12_isNumber_0
  refine r_iload_n 0 dX12_isNumber_0 rfl rfl ?_
  refine r_ldc (x := -1000000) dX12_isNumber_1 kc_RX12_224 (by decide) (by decide) ?_
  refine r_icmp_lt (tgt := 16) dX12_isNumber_3 (by decide) (fun c1 => ?_) (fun c1 => ?_)
  · replace h := h.1 c1
    refine r_iconst dX12_isNumber_16 (by decide) (by decide) ?_
    exact r_zret dX12_isNumber_17 rfl (Or.inl rfl) ⟨rfl, _, rfl, h⟩
  · replace h := h.2 c1
    refine r_iload_n 0 dX12_isNumber_6 rfl rfl ?_
    refine r_ldc (x := 1000000) dX12_isNumber_7 kc_RX12_225 (by decide) (by decide) ?_
    refine r_icmp_gt (tgt := 16) dX12_isNumber_9 (by decide) (fun c2 => ?_) (fun c2 => ?_)
    · replace h := h.1 c2
      refine r_iconst dX12_isNumber_16 (by decide) (by decide) ?_
      exact r_zret dX12_isNumber_17 rfl (Or.inl rfl) ⟨rfl, _, rfl, h⟩
    · replace h := h.2 c2
      refine r_iconst dX12_isNumber_12 (by decide) (by decide) ?_
      refine r_goto (tgt := 17) dX12_isNumber_13 (by decide) ?_
      exact r_zret dX12_isNumber_17 rfl (Or.inr rfl) ⟨rfl, _, rfl, h⟩
set_option maxHeartbeats 4000000 in
set_option maxRecDepth 20000 in
theorem eX12_isNumber {d : Nat} {K : Shp} {H : Mem} {q : Int → Mem → Prop} {v0 : Int} (h : inI v0 → Rng K H → FX12_isNumber_0 d K H q v0) : Ci mX12_isNumber d [(0, v0)] K H q := Call.of rfl (Nat.le_of_ble_eq_true rfl) (fun o r => h (o (0, v0) (by simp)) r)
def FX12_wrong_0 (d : Nat) (K : Shp) (H : Mem) (q : Int → Mem → Prop) (v0 : Int) (v1 : Int) (v2 : Int) : Prop := Fr mX12_wrong (d + 1) 0 0 none 0 [(0, (2, v0)), (1, (0, v1)), (2, (0, v2))] [] K H (qi K q)
set_option maxHeartbeats 4000000 in
set_option maxRecDepth 20000 in
theorem bX12_wrong_0 {d : Nat} {K : Shp} {H : Mem} {q : Int → Mem → Prop} {v0 v1 v2 : Int} (h : Ci mX12_isSection d [(0, v1)] K H (fun x2 H1 => ((¬ (x2 : Int) = 0 → Ci mX12_isNumber d [(0, v2)] K H1 (fun x5 H4 => ((¬ (x5 : Int) = 0 → ((0 : Int) ≤ v0) ∧ (K[(v0 : Int).toNat]? = some (12, 51)) ∧ Cv mX12_asTold d [(2, v0), (0, v1)] K H4 (fun H9 => Ci mX12_isPush d [(2, v0), (0, v1), (0, v2)] K H9 (fun x12 H11 => (((x12 : Int) = 0 → q 4 H11) ∧ (¬ (x12 : Int) = 0 → q 0 H11))))) ∧ ((x5 : Int) = 0 → q 2 H4)))) ∧ ((x2 : Int) = 0 → q 1 H1)))) : FX12_wrong_0 d K H q (v0) (v1) (v2) := by
  unfold FX12_wrong_0
  refine r_iload_n 1 dX12_wrong_0 rfl rfl ?_
  refine r_invS (M := mX12_wrong) (As := [(0, v1)]) (st := []) (mc := 0) (ms := 0) (fc := 0) (fs := 0) h ok_X12_isSection sm_X12_isSection ml_RX12_177 dX12_wrong_1 rfl (Nat.le_of_ble_eq_true rfl) rfl ?_
  rintro r K1 H1 ⟨rfl, x2, rfl, h⟩ -
  show Fr mX12_wrong (d + 1) 0 0 none 4 [(0, (2, v0)), (1, (0, v1)), (2, (0, v2))] [(0, x2)] _ H1 _
  refine r_if_ne (tgt := 9) dX12_wrong_4 (by decide) (fun c3 => ?_) (fun c3 => ?_)
  · replace h := h.1 c3
    refine r_iload_n 2 dX12_wrong_9 rfl rfl ?_
    refine r_invS (M := mX12_wrong) (As := [(0, v2)]) (st := []) (mc := 0) (ms := 0) (fc := 0) (fs := 0) h ok_X12_isNumber sm_X12_isNumber ml_RX12_226 dX12_wrong_10 rfl (Nat.le_of_ble_eq_true rfl) rfl ?_
    rintro r K1 H4 ⟨rfl, x5, rfl, h⟩ -
    show Fr mX12_wrong (d + 1) 0 0 none 13 [(0, (2, v0)), (1, (0, v1)), (2, (0, v2))] [(0, x5)] _ H4 _
    refine r_if_ne (tgt := 18) dX12_wrong_13 (by decide) (fun c6 => ?_) (fun c6 => ?_)
    · replace h := h.1 c6
      refine r_aload_n 0 dX12_wrong_18 rfl rfl ?_
      refine r_iload_n 1 dX12_wrong_19 rfl rfl ?_
      obtain ⟨h7, h⟩ := h
      obtain ⟨h8, h⟩ := h
      refine r_invV (M := mX12_wrong) (As := [(0, v1)]) (st := []) (X := v0) (mc := 0) (ms := 0) (fc := 0) (fs := 0) h ok_X12_asTold cls12 im_X12_asTold se_X12_asTold ml_RX12_195 dX12_wrong_20 rfl h7 h8 (Nat.le_of_ble_eq_true rfl) rfl ?_
      rintro r K1 H9 ⟨rfl, rfl, h⟩ -
      show Fr mX12_wrong (d + 1) 0 0 none 23 [(0, (2, v0)), (1, (0, v1)), (2, (0, v2))] [] _ H9 _
      refine r_aload_n 0 dX12_wrong_23 rfl rfl ?_
      refine r_iload_n 1 dX12_wrong_24 rfl rfl ?_
      refine r_iload_n 2 dX12_wrong_25 rfl rfl ?_
      refine r_invV (M := mX12_wrong) (As := [(0, v1), (0, v2)]) (st := []) (X := v0) (mc := 0) (ms := 0) (fc := 0) (fs := 0) h ok_X12_isPush cls12 im_X12_isPush se_X12_isPush ml_RX12_229 dX12_wrong_26 rfl h7 h8 (Nat.le_of_ble_eq_true rfl) rfl ?_
      rintro r K1 H11 ⟨rfl, x12, rfl, h⟩ -
      show Fr mX12_wrong (d + 1) 0 0 none 29 [(0, (2, v0)), (1, (0, v1)), (2, (0, v2))] [(0, x12)] _ H11 _
      refine r_if_eq (tgt := 36) dX12_wrong_29 (by decide) (fun c13 => ?_) (fun c13 => ?_)
      · replace h := h.1 c13
        refine r_iconst dX12_wrong_36 (by decide) (by decide) ?_
        exact r_iret dX12_wrong_37 rfl ⟨rfl, _, rfl, h⟩
      · replace h := h.2 c13
        refine r_iconst dX12_wrong_32 (by decide) (by decide) ?_
        refine r_goto (tgt := 37) dX12_wrong_33 (by decide) ?_
        exact r_iret dX12_wrong_37 rfl ⟨rfl, _, rfl, h⟩
    · replace h := h.2 c6
      refine r_iconst dX12_wrong_16 (by decide) (by decide) ?_
      exact r_iret dX12_wrong_17 rfl ⟨rfl, _, rfl, h⟩
  · replace h := h.2 c3
    refine r_iconst dX12_wrong_7 (by decide) (by decide) ?_
    exact r_iret dX12_wrong_8 rfl ⟨rfl, _, rfl, h⟩
set_option maxHeartbeats 4000000 in
set_option maxRecDepth 20000 in
theorem eX12_wrong {d : Nat} {K : Shp} {H : Mem} {q : Int → Mem → Prop} {v0 v1 v2 : Int} (h : inI v1 → inI v2 → Rng K H → FX12_wrong_0 d K H q v0 v1 v2) : Ci mX12_wrong (d + 1) [(2, v0), (0, v1), (0, v2)] K H q := Call.of rfl (Nat.le_of_ble_eq_true rfl) (fun o r => h (o (0, v1) (by simp)) (o (0, v2) (by simp)) r)
def FX12_bend_0 (d : Nat) (K : Shp) (H : Mem) (q : Int → Mem → Prop) (v0 : Int) (v1 : Int) (v2 : Int) (v3 : Int) : Prop := Fr mX12_bend (d + 1) 0 0 none 0 [(0, (2, v0)), (1, (0, v1)), (2, (0, v2)), (3, (0, v3))] [] K H (qi K q)
set_option maxHeartbeats 4000000 in
set_option maxRecDepth 20000 in
theorem bX12_bend_0 {d : Nat} {K : Shp} {H : Mem} {q : Int → Mem → Prop} {v0 v1 v2 v3 : Int} (h : ((0 : Int) ≤ v0) ∧ (K[(v0 : Int).toNat]? = some (12, 51)) ∧ Ci mX12_wrong d [(2, v0), (0, v1), (0, v2)] K H (fun x4 H3 => (((x4 : Int) ≤ 0 → Cv mX12_go d [(2, v0), (0, v1), (1, v2), (0, v3)] K H3 (fun H6 => ∀ H8 : Mem, H8 = upA H6 (v0 : Int).toNat (up1 (H6 (v0 : Int).toNat) 2 0) → Ci mX12_whole d [(2, v0), (1, (H8 (v0 : Int).toNat 19))] K H8 (fun x10 H9 => Ci mX12_whole d [(2, v0), (1, (H9 (v0 : Int).toNat 20))] K H9 (fun x12 H11 => Ci mX12_tells d [(2, v0), (0, x10), (0, x12)] K H11 (fun x14 H13 => q x14 H13))))) ∧ (¬ (x4 : Int) ≤ 0 → Ci mX12_refuse d [(2, v0), (0, x4)] K H3 (fun x16 H15 => q x16 H15))))) : FX12_bend_0 d K H q (v0) (v1) (v2) (v3) := by
  unfold FX12_bend_0
  refine r_aload_n 0 dX12_bend_0 rfl rfl ?_
  refine r_iload_n 1 dX12_bend_1 rfl rfl ?_
  refine r_iload_n 2 dX12_bend_2 rfl rfl ?_
  obtain ⟨h1, h⟩ := h
  obtain ⟨h2, h⟩ := h
  refine r_invV (M := mX12_bend) (As := [(0, v1), (0, v2)]) (st := []) (X := v0) (mc := 0) (ms := 0) (fc := 0) (fs := 0) h ok_X12_wrong cls12 im_X12_wrong se_X12_wrong ml_RX12_232 dX12_bend_3 rfl h1 h2 (Nat.le_of_ble_eq_true rfl) rfl ?_
  rintro r K1 H3 ⟨rfl, x4, rfl, h⟩ -
  show Fr mX12_bend (d + 1) 0 0 none 6 [(0, (2, v0)), (1, (0, v1)), (2, (0, v2)), (3, (0, v3))] [(0, x4)] _ H3 _
  refine r_istore dX12_bend_6 (by decide) rfl ?_
  refine r_iload 0 dX12_bend_8 rfl ?_
  refine r_if_le (tgt := 20) dX12_bend_10 (by decide) (fun c5 => ?_) (fun c5 => ?_)
  · replace h := h.1 c5
    refine r_aload_n 1 dX12_bend_20 rfl rfl ?_
    refine r_iload_n 2 dX12_bend_21 rfl rfl ?_
    refine r_iload_n 3 dX12_bend_22 rfl rfl ?_
    refine r_i2l dX12_bend_23 ?_
    refine r_iload_n 4 dX12_bend_24 rfl rfl ?_
    refine r_invV (M := mX12_bend) (As := [(0, v1), (1, v2), (0, v3)]) (st := []) (X := v0) (mc := 0) (ms := 0) (fc := 0) (fs := 0) h ok_X12_go cls12 im_X12_go se_X12_go ml_RX12_235 dX12_bend_25 rfl h1 h2 (Nat.le_of_ble_eq_true rfl) rfl ?_
    rintro r K1 H6 ⟨rfl, rfl, h⟩ -
    show Fr mX12_bend (d + 1) 0 0 none 28 [(4, (0, x4)), (0, (2, v0)), (1, (0, v1)), (2, (0, v2)), (3, (0, v3))] [] _ H6 _
    refine r_aload_n 1 dX12_bend_28 rfl rfl ?_
    refine r_iconst dX12_bend_29 (by decide) (by decide) ?_
    refine r_putf cls12 2 dX12_bend_30 (by decide) rfl fl_RX12_93 rfl h1 h2 (fun o => o) ?_
    replace h := h _ rfl
    generalize upA H6 (v0 : Int).toNat (up1 (H6 (v0 : Int).toNat) 2 0) = H8 at h ⊢
    refine r_aload_n 1 dX12_bend_33 rfl rfl ?_
    refine r_aload_n 1 dX12_bend_34 rfl rfl ?_
    refine r_aload_n 1 dX12_bend_35 rfl rfl ?_
    refine r_getf cls12 19 dX12_bend_36 (by decide) fl_RX12_211 rfl h1 h2 ?_
    refine r_invV (M := mX12_bend) (As := [(1, (H8 (v0 : Int).toNat 19))]) (st := [(2, v0)]) (X := v0) (mc := 0) (ms := 0) (fc := 0) (fs := 0) h ok_X12_whole cls12 im_X12_whole se_X12_whole ml_RX12_125 dX12_bend_39 rfl h1 h2 (Nat.le_of_ble_eq_true rfl) rfl ?_
    rintro r K1 H9 ⟨rfl, x10, rfl, h⟩ -
    show Fr mX12_bend (d + 1) 0 0 none 42 [(4, (0, x4)), (0, (2, v0)), (1, (0, v1)), (2, (0, v2)), (3, (0, v3))] [(0, x10), (2, v0)] _ H9 _
    refine r_aload_n 1 dX12_bend_42 rfl rfl ?_
    refine r_aload_n 1 dX12_bend_43 rfl rfl ?_
    refine r_getf cls12 20 dX12_bend_44 (by decide) fl_RX12_215 rfl h1 h2 ?_
    refine r_invV (M := mX12_bend) (As := [(1, (H9 (v0 : Int).toNat 20))]) (st := [(0, x10), (2, v0)]) (X := v0) (mc := 0) (ms := 0) (fc := 0) (fs := 0) h ok_X12_whole cls12 im_X12_whole se_X12_whole ml_RX12_125 dX12_bend_47 rfl h1 h2 (Nat.le_of_ble_eq_true rfl) rfl ?_
    rintro r K1 H11 ⟨rfl, x12, rfl, h⟩ -
    show Fr mX12_bend (d + 1) 0 0 none 50 [(4, (0, x4)), (0, (2, v0)), (1, (0, v1)), (2, (0, v2)), (3, (0, v3))] [(0, x12), (0, x10), (2, v0)] _ H11 _
    refine r_invV (M := mX12_bend) (As := [(0, x10), (0, x12)]) (st := []) (X := v0) (mc := 0) (ms := 0) (fc := 0) (fs := 0) h ok_X12_tells cls12 im_X12_tells se_X12_tells ml_RX12_239 dX12_bend_50 rfl h1 h2 (Nat.le_of_ble_eq_true rfl) rfl ?_
    rintro r K1 H13 ⟨rfl, x14, rfl, h⟩ -
    show Fr mX12_bend (d + 1) 0 0 none 53 [(4, (0, x4)), (0, (2, v0)), (1, (0, v1)), (2, (0, v2)), (3, (0, v3))] [(0, x14)] _ H13 _
    exact r_iret dX12_bend_53 rfl ⟨rfl, _, rfl, h⟩
  · replace h := h.2 c5
    refine r_aload_n 1 dX12_bend_13 rfl rfl ?_
    refine r_iload 0 dX12_bend_14 rfl ?_
    refine r_invV (M := mX12_bend) (As := [(0, x4)]) (st := []) (X := v0) (mc := 0) (ms := 0) (fc := 0) (fs := 0) h ok_X12_refuse cls12 im_X12_refuse se_X12_refuse ml_RX12_184 dX12_bend_16 rfl h1 h2 (Nat.le_of_ble_eq_true rfl) rfl ?_
    rintro r K1 H15 ⟨rfl, x16, rfl, h⟩ -
    show Fr mX12_bend (d + 1) 0 0 none 19 [(4, (0, x4)), (0, (2, v0)), (1, (0, v1)), (2, (0, v2)), (3, (0, v3))] [(0, x16)] _ H15 _
    exact r_iret dX12_bend_19 rfl ⟨rfl, _, rfl, h⟩
set_option maxHeartbeats 4000000 in
set_option maxRecDepth 20000 in
theorem eX12_bend {d : Nat} {K : Shp} {H : Mem} {q : Int → Mem → Prop} {v0 v1 v2 v3 : Int} (h : inI v1 → inI v2 → inI v3 → Rng K H → FX12_bend_0 d K H q v0 v1 v2 v3) : Ci mX12_bend (d + 1) [(2, v0), (0, v1), (0, v2), (0, v3)] K H q := Call.of rfl (Nat.le_of_ble_eq_true rfl) (fun o r => h (o (0, v1) (by simp)) (o (0, v2) (by simp)) (o (0, v3) (by simp)) r)
def FX12_cut_0 (d : Nat) (K : Shp) (H : Mem) (q : Int → Mem → Prop) (v0 : Int) (v1 : Int) (v2 : Int) (v3 : Int) : Prop := Fr mX12_cut (d + 1) 0 0 none 0 [(0, (2, v0)), (1, (0, v1)), (2, (0, v2)), (3, (0, v3))] [] K H (qi K q)
set_option maxHeartbeats 4000000 in
set_option maxRecDepth 20000 in
theorem bX12_cut_0 {d : Nat} {K : Shp} {H : Mem} {q : Int → Mem → Prop} {v0 v1 v2 v3 : Int} (h : ((0 : Int) ≤ v0) ∧ (K[(v0 : Int).toNat]? = some (12, 51)) ∧ Ci mX12_wrong d [(2, v0), (0, v1), (0, v2)] K H (fun x4 H3 => (((x4 : Int) ≤ 0 → Cv mX12_go d [(2, v0), (0, v1), (1, v2), (0, v3)] K H3 (fun H6 => ∀ H8 : Mem, H8 = upA H6 (v0 : Int).toNat (up1 (H6 (v0 : Int).toNat) 2 0) → Ci mX12_whole d [(2, v0), (1, (H8 (v0 : Int).toNat 21))] K H8 (fun x10 H9 => Ci mX12_whole d [(2, v0), (1, (H9 (v0 : Int).toNat 22))] K H9 (fun x12 H11 => Ci mX12_tells d [(2, v0), (0, x10), (0, x12)] K H11 (fun x14 H13 => q x14 H13))))) ∧ (¬ (x4 : Int) ≤ 0 → Ci mX12_refuse d [(2, v0), (0, x4)] K H3 (fun x16 H15 => q x16 H15))))) : FX12_cut_0 d K H q (v0) (v1) (v2) (v3) := by
  unfold FX12_cut_0
  refine r_aload_n 0 dX12_cut_0 rfl rfl ?_
  refine r_iload_n 1 dX12_cut_1 rfl rfl ?_
  refine r_iload_n 2 dX12_cut_2 rfl rfl ?_
  obtain ⟨h1, h⟩ := h
  obtain ⟨h2, h⟩ := h
  refine r_invV (M := mX12_cut) (As := [(0, v1), (0, v2)]) (st := []) (X := v0) (mc := 0) (ms := 0) (fc := 0) (fs := 0) h ok_X12_wrong cls12 im_X12_wrong se_X12_wrong ml_RX12_232 dX12_cut_3 rfl h1 h2 (Nat.le_of_ble_eq_true rfl) rfl ?_
  rintro r K1 H3 ⟨rfl, x4, rfl, h⟩ -
  show Fr mX12_cut (d + 1) 0 0 none 6 [(0, (2, v0)), (1, (0, v1)), (2, (0, v2)), (3, (0, v3))] [(0, x4)] _ H3 _
  refine r_istore dX12_cut_6 (by decide) rfl ?_
  refine r_iload 0 dX12_cut_8 rfl ?_
  refine r_if_le (tgt := 20) dX12_cut_10 (by decide) (fun c5 => ?_) (fun c5 => ?_)
  · replace h := h.1 c5
    refine r_aload_n 1 dX12_cut_20 rfl rfl ?_
    refine r_iload_n 2 dX12_cut_21 rfl rfl ?_
    refine r_iload_n 3 dX12_cut_22 rfl rfl ?_
    refine r_i2l dX12_cut_23 ?_
    refine r_iload_n 4 dX12_cut_24 rfl rfl ?_
    refine r_invV (M := mX12_cut) (As := [(0, v1), (1, v2), (0, v3)]) (st := []) (X := v0) (mc := 0) (ms := 0) (fc := 0) (fs := 0) h ok_X12_go cls12 im_X12_go se_X12_go ml_RX12_235 dX12_cut_25 rfl h1 h2 (Nat.le_of_ble_eq_true rfl) rfl ?_
    rintro r K1 H6 ⟨rfl, rfl, h⟩ -
    show Fr mX12_cut (d + 1) 0 0 none 28 [(4, (0, x4)), (0, (2, v0)), (1, (0, v1)), (2, (0, v2)), (3, (0, v3))] [] _ H6 _
    refine r_aload_n 1 dX12_cut_28 rfl rfl ?_
    refine r_iconst dX12_cut_29 (by decide) (by decide) ?_
    refine r_putf cls12 2 dX12_cut_30 (by decide) rfl fl_RX12_93 rfl h1 h2 (fun o => o) ?_
    replace h := h _ rfl
    generalize upA H6 (v0 : Int).toNat (up1 (H6 (v0 : Int).toNat) 2 0) = H8 at h ⊢
    refine r_aload_n 1 dX12_cut_33 rfl rfl ?_
    refine r_aload_n 1 dX12_cut_34 rfl rfl ?_
    refine r_aload_n 1 dX12_cut_35 rfl rfl ?_
    refine r_getf cls12 21 dX12_cut_36 (by decide) fl_RX12_218 rfl h1 h2 ?_
    refine r_invV (M := mX12_cut) (As := [(1, (H8 (v0 : Int).toNat 21))]) (st := [(2, v0)]) (X := v0) (mc := 0) (ms := 0) (fc := 0) (fs := 0) h ok_X12_whole cls12 im_X12_whole se_X12_whole ml_RX12_125 dX12_cut_39 rfl h1 h2 (Nat.le_of_ble_eq_true rfl) rfl ?_
    rintro r K1 H9 ⟨rfl, x10, rfl, h⟩ -
    show Fr mX12_cut (d + 1) 0 0 none 42 [(4, (0, x4)), (0, (2, v0)), (1, (0, v1)), (2, (0, v2)), (3, (0, v3))] [(0, x10), (2, v0)] _ H9 _
    refine r_aload_n 1 dX12_cut_42 rfl rfl ?_
    refine r_aload_n 1 dX12_cut_43 rfl rfl ?_
    refine r_getf cls12 22 dX12_cut_44 (by decide) fl_RX12_221 rfl h1 h2 ?_
    refine r_invV (M := mX12_cut) (As := [(1, (H9 (v0 : Int).toNat 22))]) (st := [(0, x10), (2, v0)]) (X := v0) (mc := 0) (ms := 0) (fc := 0) (fs := 0) h ok_X12_whole cls12 im_X12_whole se_X12_whole ml_RX12_125 dX12_cut_47 rfl h1 h2 (Nat.le_of_ble_eq_true rfl) rfl ?_
    rintro r K1 H11 ⟨rfl, x12, rfl, h⟩ -
    show Fr mX12_cut (d + 1) 0 0 none 50 [(4, (0, x4)), (0, (2, v0)), (1, (0, v1)), (2, (0, v2)), (3, (0, v3))] [(0, x12), (0, x10), (2, v0)] _ H11 _
    refine r_invV (M := mX12_cut) (As := [(0, x10), (0, x12)]) (st := []) (X := v0) (mc := 0) (ms := 0) (fc := 0) (fs := 0) h ok_X12_tells cls12 im_X12_tells se_X12_tells ml_RX12_239 dX12_cut_50 rfl h1 h2 (Nat.le_of_ble_eq_true rfl) rfl ?_
    rintro r K1 H13 ⟨rfl, x14, rfl, h⟩ -
    show Fr mX12_cut (d + 1) 0 0 none 53 [(4, (0, x4)), (0, (2, v0)), (1, (0, v1)), (2, (0, v2)), (3, (0, v3))] [(0, x14)] _ H13 _
    exact r_iret dX12_cut_53 rfl ⟨rfl, _, rfl, h⟩
  · replace h := h.2 c5
    refine r_aload_n 1 dX12_cut_13 rfl rfl ?_
    refine r_iload 0 dX12_cut_14 rfl ?_
    refine r_invV (M := mX12_cut) (As := [(0, x4)]) (st := []) (X := v0) (mc := 0) (ms := 0) (fc := 0) (fs := 0) h ok_X12_refuse cls12 im_X12_refuse se_X12_refuse ml_RX12_184 dX12_cut_16 rfl h1 h2 (Nat.le_of_ble_eq_true rfl) rfl ?_
    rintro r K1 H15 ⟨rfl, x16, rfl, h⟩ -
    show Fr mX12_cut (d + 1) 0 0 none 19 [(4, (0, x4)), (0, (2, v0)), (1, (0, v1)), (2, (0, v2)), (3, (0, v3))] [(0, x16)] _ H15 _
    exact r_iret dX12_cut_19 rfl ⟨rfl, _, rfl, h⟩
set_option maxHeartbeats 4000000 in
set_option maxRecDepth 20000 in
theorem eX12_cut {d : Nat} {K : Shp} {H : Mem} {q : Int → Mem → Prop} {v0 v1 v2 v3 : Int} (h : inI v1 → inI v2 → inI v3 → Rng K H → FX12_cut_0 d K H q v0 v1 v2 v3) : Ci mX12_cut (d + 1) [(2, v0), (0, v1), (0, v2), (0, v3)] K H q := Call.of rfl (Nat.le_of_ble_eq_true rfl) (fun o r => h (o (0, v1) (by simp)) (o (0, v2) (by simp)) (o (0, v3) (by simp)) r)
def FX12_bears_0 (d : Nat) (K : Shp) (H : Mem) (q : Int → Mem → Prop) (v0 : Int) (v1 : Int) (v2 : Int) (v3 : Int) : Prop := Fr mX12_bears (d + 1) 0 0 none 0 [(0, (2, v0)), (1, (0, v1)), (2, (0, v2)), (3, (0, v3))] [] K H (qi K q)
set_option maxHeartbeats 4000000 in
set_option maxRecDepth 20000 in
theorem bX12_bears_0 {d : Nat} {K : Shp} {H : Mem} {q : Int → Mem → Prop} {v0 v1 v2 v3 : Int} (h : ((0 : Int) ≤ v0) ∧ (K[(v0 : Int).toNat]? = some (12, 51)) ∧ Ci mX12_isPush d [(2, v0), (0, v1), (0, v2)] K H (fun x4 H3 => ((¬ (x4 : Int) = 0 → Cv mX12_go d [(2, v0), (0, v1), (1, v2), (0, 1)] K H3 (fun H6 => (inL (v3 * (H6 (v0 : Int).toNat 20))) ∧ ((((v3 * (H6 (v0 : Int).toNat 20)) : Int) ≤ (H6 (v0 : Int).toNat 19) → Cv mX12_go d [(2, v0), (0, v1), (1, v2), (0, 0)] K H6 (fun H10 => (inL (v3 * (H10 (v0 : Int).toNat 20))) ∧ ((((v3 * (H10 (v0 : Int).toNat 20)) : Int) < (H10 (v0 : Int).toNat 19) → q 0 H10) ∧ (¬ ((v3 * (H10 (v0 : Int).toNat 20)) : Int) < (H10 (v0 : Int).toNat 19) → q 1 H10)))) ∧ (¬ ((v3 * (H6 (v0 : Int).toNat 20)) : Int) ≤ (H6 (v0 : Int).toNat 19) → q 0 H6)))) ∧ ((x4 : Int) = 0 → q 0 H3)))) : FX12_bears_0 d K H q (v0) (v1) (v2) (v3) := by
  unfold FX12_bears_0
  refine r_aload_n 0 dX12_bears_0 rfl rfl ?_
  refine r_iload_n 1 dX12_bears_1 rfl rfl ?_
  refine r_iload_n 2 dX12_bears_2 rfl rfl ?_
  obtain ⟨h1, h⟩ := h
  obtain ⟨h2, h⟩ := h
  refine r_invV (M := mX12_bears) (As := [(0, v1), (0, v2)]) (st := []) (X := v0) (mc := 0) (ms := 0) (fc := 0) (fs := 0) h ok_X12_isPush cls12 im_X12_isPush se_X12_isPush ml_RX12_229 dX12_bears_3 rfl h1 h2 (Nat.le_of_ble_eq_true rfl) rfl ?_
  rintro r K1 H3 ⟨rfl, x4, rfl, h⟩ -
  show Fr mX12_bears (d + 1) 0 0 none 6 [(0, (2, v0)), (1, (0, v1)), (2, (0, v2)), (3, (0, v3))] [(0, x4)] _ H3 _
  refine r_if_ne (tgt := 11) dX12_bears_6 (by decide) (fun c5 => ?_) (fun c5 => ?_)
  · replace h := h.1 c5
    refine r_aload_n 0 dX12_bears_11 rfl rfl ?_
    refine r_iload_n 1 dX12_bears_12 rfl rfl ?_
    refine r_iload_n 2 dX12_bears_13 rfl rfl ?_
    refine r_i2l dX12_bears_14 ?_
    refine r_iconst dX12_bears_15 (by decide) (by decide) ?_
    refine r_invV (M := mX12_bears) (As := [(0, v1), (1, v2), (0, 1)]) (st := []) (X := v0) (mc := 0) (ms := 0) (fc := 0) (fs := 0) h ok_X12_go cls12 im_X12_go se_X12_go ml_RX12_235 dX12_bears_16 rfl h1 h2 (Nat.le_of_ble_eq_true rfl) rfl ?_
    rintro r K1 H6 ⟨rfl, rfl, h⟩ -
    show Fr mX12_bears (d + 1) 0 0 none 19 [(0, (2, v0)), (1, (0, v1)), (2, (0, v2)), (3, (0, v3))] [] _ H6 _
    refine r_iload_n 3 dX12_bears_19 rfl rfl ?_
    refine r_i2l dX12_bears_20 ?_
    refine r_aload_n 0 dX12_bears_21 rfl rfl ?_
    refine r_getf cls12 20 dX12_bears_22 (by decide) fl_RX12_215 rfl h1 h2 ?_
    obtain ⟨h8, h⟩ := h
    refine r_lmul dX12_bears_25 h8 ?_
    refine r_aload_n 0 dX12_bears_26 rfl rfl ?_
    refine r_getf cls12 19 dX12_bears_27 (by decide) fl_RX12_211 rfl h1 h2 ?_
    refine r_lcmp dX12_bears_30 ?_
    refine r_if_le (tgt := 36) dX12_bears_31 (by decide) (fun c9 => ?_) (fun c9 => ?_)
    · replace h := h.1 (cmpL_le.mp c9)
      refine r_aload_n 0 dX12_bears_36 rfl rfl ?_
      refine r_iload_n 1 dX12_bears_37 rfl rfl ?_
      refine r_iload_n 2 dX12_bears_38 rfl rfl ?_
      refine r_i2l dX12_bears_39 ?_
      refine r_iconst dX12_bears_40 (by decide) (by decide) ?_
      refine r_invV (M := mX12_bears) (As := [(0, v1), (1, v2), (0, 0)]) (st := []) (X := v0) (mc := 0) (ms := 0) (fc := 0) (fs := 0) h ok_X12_go cls12 im_X12_go se_X12_go ml_RX12_235 dX12_bears_41 rfl h1 h2 (Nat.le_of_ble_eq_true rfl) rfl ?_
      rintro r K1 H10 ⟨rfl, rfl, h⟩ -
      show Fr mX12_bears (d + 1) 0 0 none 44 [(0, (2, v0)), (1, (0, v1)), (2, (0, v2)), (3, (0, v3))] [] _ H10 _
      refine r_iload_n 3 dX12_bears_44 rfl rfl ?_
      refine r_i2l dX12_bears_45 ?_
      refine r_aload_n 0 dX12_bears_46 rfl rfl ?_
      refine r_getf cls12 20 dX12_bears_47 (by decide) fl_RX12_215 rfl h1 h2 ?_
      obtain ⟨h12, h⟩ := h
      refine r_lmul dX12_bears_50 h12 ?_
      refine r_aload_n 0 dX12_bears_51 rfl rfl ?_
      refine r_getf cls12 19 dX12_bears_52 (by decide) fl_RX12_211 rfl h1 h2 ?_
      refine r_lcmp dX12_bears_55 ?_
      refine r_if_lt (tgt := 63) dX12_bears_56 (by decide) (fun c13 => ?_) (fun c13 => ?_)
      · replace h := h.1 (cmpL_lt.mp c13)
        refine r_iconst dX12_bears_63 (by decide) (by decide) ?_
        exact r_zret dX12_bears_64 rfl (Or.inl rfl) ⟨rfl, _, rfl, h⟩
      · replace h := h.2 (fun q => c13 (cmpL_lt.mpr q))
        refine r_iconst dX12_bears_59 (by decide) (by decide) ?_
        refine r_goto (tgt := 64) dX12_bears_60 (by decide) ?_
        exact r_zret dX12_bears_64 rfl (Or.inr rfl) ⟨rfl, _, rfl, h⟩
    · replace h := h.2 (fun q => c9 (cmpL_le.mpr q))
      refine r_iconst dX12_bears_34 (by decide) (by decide) ?_
      exact r_zret dX12_bears_35 rfl (Or.inl rfl) ⟨rfl, _, rfl, h⟩
  · replace h := h.2 c5
    refine r_iconst dX12_bears_9 (by decide) (by decide) ?_
    exact r_zret dX12_bears_10 rfl (Or.inl rfl) ⟨rfl, _, rfl, h⟩
set_option maxHeartbeats 4000000 in
set_option maxRecDepth 20000 in
theorem eX12_bears {d : Nat} {K : Shp} {H : Mem} {q : Int → Mem → Prop} {v0 v1 v2 v3 : Int} (h : inI v1 → inI v2 → inI v3 → Rng K H → FX12_bears_0 d K H q v0 v1 v2 v3) : Ci mX12_bears (d + 1) [(2, v0), (0, v1), (0, v2), (0, v3)] K H q := Call.of rfl (Nat.le_of_ble_eq_true rfl) (fun o r => h (o (0, v1) (by simp)) (o (0, v2) (by simp)) (o (0, v3) (by simp)) r)
def FX12_borne_0 (d : Nat) (K : Shp) (H : Mem) (q : Int → Mem → Prop) (v0 : Int) (v1 : Int) (v2 : Int) (v3 : Int) : Prop := Fr mX12_borne (d + 1) 0 0 none 0 [(0, (2, v0)), (1, (0, v1)), (2, (0, v2)), (3, (0, v3))] [] K H (qi K q)
set_option maxHeartbeats 4000000 in
set_option maxRecDepth 20000 in
theorem bX12_borne_0 {d : Nat} {K : Shp} {H : Mem} {q : Int → Mem → Prop} {v0 v1 v2 v3 : Int} (h : Ci mX12_isSection d [(0, v1)] K H (fun x2 H1 => ((¬ (x2 : Int) = 0 → Ci mX12_isNumber d [(0, v2)] K H1 (fun x5 H4 => (((x5 : Int) = 0 → ((0 : Int) ≤ v0) ∧ (K[(v0 : Int).toNat]? = some (12, 51)) ∧ Ci mX12_refuse d [(2, v0), (0, 2)] K H4 (fun x10 H9 => q x10 H9)) ∧ (¬ (x5 : Int) = 0 → Ci mX12_isNumber d [(0, v3)] K H4 (fun x12 H11 => ((¬ (x12 : Int) = 0 → ((0 : Int) ≤ v0) ∧ (K[(v0 : Int).toNat]? = some (12, 51)) ∧ ∀ H16 : Mem, H16 = upA H11 (v0 : Int).toNat (up1 (H11 (v0 : Int).toNat) 0 0) → Cv mX12_asTold d [(2, v0), (0, v1)] K H16 (fun H17 => Ci mX12_bears d [(2, v0), (0, v1), (0, v2), (0, v3)] K H17 (fun x20 H19 => (((x20 : Int) = 0 → q 0 H19) ∧ (¬ (x20 : Int) = 0 → q 1 H19))))) ∧ ((x12 : Int) = 0 → ((0 : Int) ≤ v0) ∧ (K[(v0 : Int).toNat]? = some (12, 51)) ∧ Ci mX12_refuse d [(2, v0), (0, 2)] K H11 (fun x25 H24 => q x25 H24)))))))) ∧ ((x2 : Int) = 0 → ((0 : Int) ≤ v0) ∧ (K[(v0 : Int).toNat]? = some (12, 51)) ∧ Ci mX12_refuse d [(2, v0), (0, 1)] K H1 (fun x29 H28 => q x29 H28))))) : FX12_borne_0 d K H q (v0) (v1) (v2) (v3) := by
  unfold FX12_borne_0
  refine r_iload_n 1 dX12_borne_0 rfl rfl ?_
  refine r_invS (M := mX12_borne) (As := [(0, v1)]) (st := []) (mc := 0) (ms := 0) (fc := 0) (fs := 0) h ok_X12_isSection sm_X12_isSection ml_RX12_177 dX12_borne_1 rfl (Nat.le_of_ble_eq_true rfl) rfl ?_
  rintro r K1 H1 ⟨rfl, x2, rfl, h⟩ -
  show Fr mX12_borne (d + 1) 0 0 none 4 [(0, (2, v0)), (1, (0, v1)), (2, (0, v2)), (3, (0, v3))] [(0, x2)] _ H1 _
  refine r_if_ne (tgt := 13) dX12_borne_4 (by decide) (fun c3 => ?_) (fun c3 => ?_)
  · replace h := h.1 c3
    refine r_iload_n 2 dX12_borne_13 rfl rfl ?_
    refine r_invS (M := mX12_borne) (As := [(0, v2)]) (st := []) (mc := 0) (ms := 0) (fc := 0) (fs := 0) h ok_X12_isNumber sm_X12_isNumber ml_RX12_226 dX12_borne_14 rfl (Nat.le_of_ble_eq_true rfl) rfl ?_
    rintro r K1 H4 ⟨rfl, x5, rfl, h⟩ -
    show Fr mX12_borne (d + 1) 0 0 none 17 [(0, (2, v0)), (1, (0, v1)), (2, (0, v2)), (3, (0, v3))] [(0, x5)] _ H4 _
    refine r_if_eq (tgt := 27) dX12_borne_17 (by decide) (fun c6 => ?_) (fun c6 => ?_)
    · replace h := h.1 c6
      refine r_aload_n 0 dX12_borne_27 rfl rfl ?_
      refine r_iconst dX12_borne_28 (by decide) (by decide) ?_
      obtain ⟨h7, h⟩ := h
      obtain ⟨h8, h⟩ := h
      refine r_invV (M := mX12_borne) (As := [(0, 2)]) (st := []) (X := v0) (mc := 0) (ms := 0) (fc := 0) (fs := 0) h ok_X12_refuse cls12 im_X12_refuse se_X12_refuse ml_RX12_184 dX12_borne_29 rfl h7 h8 (Nat.le_of_ble_eq_true rfl) rfl ?_
      rintro r K1 H9 ⟨rfl, x10, rfl, h⟩ -
      show Fr mX12_borne (d + 1) 0 0 none 32 [(0, (2, v0)), (1, (0, v1)), (2, (0, v2)), (3, (0, v3))] [(0, x10)] _ H9 _
      exact r_iret dX12_borne_32 rfl ⟨rfl, _, rfl, h⟩
    · replace h := h.2 c6
      refine r_iload_n 3 dX12_borne_20 rfl rfl ?_
      refine r_invS (M := mX12_borne) (As := [(0, v3)]) (st := []) (mc := 0) (ms := 0) (fc := 0) (fs := 0) h ok_X12_isNumber sm_X12_isNumber ml_RX12_226 dX12_borne_21 rfl (Nat.le_of_ble_eq_true rfl) rfl ?_
      rintro r K1 H11 ⟨rfl, x12, rfl, h⟩ -
      show Fr mX12_borne (d + 1) 0 0 none 24 [(0, (2, v0)), (1, (0, v1)), (2, (0, v2)), (3, (0, v3))] [(0, x12)] _ H11 _
      refine r_if_ne (tgt := 33) dX12_borne_24 (by decide) (fun c13 => ?_) (fun c13 => ?_)
      · replace h := h.1 c13
        refine r_aload_n 0 dX12_borne_33 rfl rfl ?_
        refine r_iconst dX12_borne_34 (by decide) (by decide) ?_
        obtain ⟨h14, h⟩ := h
        obtain ⟨h15, h⟩ := h
        refine r_putf cls12 0 dX12_borne_35 (by decide) rfl fl_RX12_89 rfl h14 h15 (fun o => o) ?_
        replace h := h _ rfl
        generalize upA H11 (v0 : Int).toNat (up1 (H11 (v0 : Int).toNat) 0 0) = H16 at h ⊢
        refine r_aload_n 0 dX12_borne_38 rfl rfl ?_
        refine r_iload_n 1 dX12_borne_39 rfl rfl ?_
        refine r_invV (M := mX12_borne) (As := [(0, v1)]) (st := []) (X := v0) (mc := 0) (ms := 0) (fc := 0) (fs := 0) h ok_X12_asTold cls12 im_X12_asTold se_X12_asTold ml_RX12_195 dX12_borne_40 rfl h14 h15 (Nat.le_of_ble_eq_true rfl) rfl ?_
        rintro r K1 H17 ⟨rfl, rfl, h⟩ -
        show Fr mX12_borne (d + 1) 0 0 none 43 [(0, (2, v0)), (1, (0, v1)), (2, (0, v2)), (3, (0, v3))] [] _ H17 _
        refine r_aload_n 0 dX12_borne_43 rfl rfl ?_
        refine r_iload_n 1 dX12_borne_44 rfl rfl ?_
        refine r_iload_n 2 dX12_borne_45 rfl rfl ?_
        refine r_iload_n 3 dX12_borne_46 rfl rfl ?_
        refine r_invV (M := mX12_borne) (As := [(0, v1), (0, v2), (0, v3)]) (st := []) (X := v0) (mc := 0) (ms := 0) (fc := 0) (fs := 0) h ok_X12_bears cls12 im_X12_bears se_X12_bears ml_RX12_242 dX12_borne_47 rfl h14 h15 (Nat.le_of_ble_eq_true rfl) rfl ?_
        rintro r K1 H19 ⟨rfl, x20, rfl, h⟩ -
        show Fr mX12_borne (d + 1) 0 0 none 50 [(0, (2, v0)), (1, (0, v1)), (2, (0, v2)), (3, (0, v3))] [(0, x20)] _ H19 _
        refine r_if_eq (tgt := 57) dX12_borne_50 (by decide) (fun c21 => ?_) (fun c21 => ?_)
        · replace h := h.1 c21
          refine r_iconst dX12_borne_57 (by decide) (by decide) ?_
          exact r_iret dX12_borne_58 rfl ⟨rfl, _, rfl, h⟩
        · replace h := h.2 c21
          refine r_iconst dX12_borne_53 (by decide) (by decide) ?_
          refine r_goto (tgt := 58) dX12_borne_54 (by decide) ?_
          exact r_iret dX12_borne_58 rfl ⟨rfl, _, rfl, h⟩
      · replace h := h.2 c13
        refine r_aload_n 0 dX12_borne_27 rfl rfl ?_
        refine r_iconst dX12_borne_28 (by decide) (by decide) ?_
        obtain ⟨h22, h⟩ := h
        obtain ⟨h23, h⟩ := h
        refine r_invV (M := mX12_borne) (As := [(0, 2)]) (st := []) (X := v0) (mc := 0) (ms := 0) (fc := 0) (fs := 0) h ok_X12_refuse cls12 im_X12_refuse se_X12_refuse ml_RX12_184 dX12_borne_29 rfl h22 h23 (Nat.le_of_ble_eq_true rfl) rfl ?_
        rintro r K1 H24 ⟨rfl, x25, rfl, h⟩ -
        show Fr mX12_borne (d + 1) 0 0 none 32 [(0, (2, v0)), (1, (0, v1)), (2, (0, v2)), (3, (0, v3))] [(0, x25)] _ H24 _
        exact r_iret dX12_borne_32 rfl ⟨rfl, _, rfl, h⟩
  · replace h := h.2 c3
    refine r_aload_n 0 dX12_borne_7 rfl rfl ?_
    refine r_iconst dX12_borne_8 (by decide) (by decide) ?_
    obtain ⟨h26, h⟩ := h
    obtain ⟨h27, h⟩ := h
    refine r_invV (M := mX12_borne) (As := [(0, 1)]) (st := []) (X := v0) (mc := 0) (ms := 0) (fc := 0) (fs := 0) h ok_X12_refuse cls12 im_X12_refuse se_X12_refuse ml_RX12_184 dX12_borne_9 rfl h26 h27 (Nat.le_of_ble_eq_true rfl) rfl ?_
    rintro r K1 H28 ⟨rfl, x29, rfl, h⟩ -
    show Fr mX12_borne (d + 1) 0 0 none 12 [(0, (2, v0)), (1, (0, v1)), (2, (0, v2)), (3, (0, v3))] [(0, x29)] _ H28 _
    exact r_iret dX12_borne_12 rfl ⟨rfl, _, rfl, h⟩
set_option maxHeartbeats 4000000 in
set_option maxRecDepth 20000 in
theorem eX12_borne {d : Nat} {K : Shp} {H : Mem} {q : Int → Mem → Prop} {v0 v1 v2 v3 : Int} (h : inI v1 → inI v2 → inI v3 → Rng K H → FX12_borne_0 d K H q v0 v1 v2 v3) : Ci mX12_borne (d + 1) [(2, v0), (0, v1), (0, v2), (0, v3)] K H q := Call.of rfl (Nat.le_of_ble_eq_true rfl) (fun o r => h (o (0, v1) (by simp)) (o (0, v2) (by simp)) (o (0, v3) (by simp)) r)
def FX12_pair_0 (d : Nat) (K : Shp) (H : Mem) (q : Int → Mem → Prop) (v0 : Int) (v1 : Int) (v2 : Int) : Prop := Fr mX12_pair (d + 1) 0 0 none 0 [(0, (2, v0)), (1, (0, v1)), (2, (0, v2))] [] K H (qi K q)
set_option maxHeartbeats 4000000 in
set_option maxRecDepth 20000 in
theorem bX12_pair_0 {d : Nat} {K : Shp} {H : Mem} {q : Int → Mem → Prop} {v0 v1 v2 : Int} (h : Ci mX12_isNumber d [(0, v1)] K H (fun x2 H1 => (((x2 : Int) = 0 → ((0 : Int) ≤ v0) ∧ (K[(v0 : Int).toNat]? = some (12, 51)) ∧ Ci mX12_refuse d [(2, v0), (0, 2)] K H1 (fun x7 H6 => q x7 H6)) ∧ (¬ (x2 : Int) = 0 → Ci mX12_isNumber d [(0, v2)] K H1 (fun x9 H8 => ((¬ (x9 : Int) = 0 → ((0 : Int) ≤ v0) ∧ (K[(v0 : Int).toNat]? = some (12, 51)) ∧ ((¬ ((H8 (v0 : Int).toNat 27) : Int) = 8 → ((0 : Int) ≤ (H8 (v0 : Int).toNat 23)) ∧ ∃ n15 : Nat, (K[((H8 (v0 : Int).toNat 23) : Int).toNat]? = some (20, n15)) ∧ ((0 : Int) ≤ (H8 (v0 : Int).toNat 27)) ∧ (((H8 (v0 : Int).toNat 27) : Int) < n15) ∧ ∀ H19 : Mem, H19 = upA H8 ((H8 (v0 : Int).toNat 23) : Int).toNat (up1 (H8 ((H8 (v0 : Int).toNat 23) : Int).toNat) ((H8 (v0 : Int).toNat 27) : Int).toNat v1) → ((0 : Int) ≤ (H19 (v0 : Int).toNat 24)) ∧ ∃ n21 : Nat, (K[((H19 (v0 : Int).toNat 24) : Int).toNat]? = some (20, n21)) ∧ ((0 : Int) ≤ (H19 (v0 : Int).toNat 27)) ∧ (((H19 (v0 : Int).toNat 27) : Int) < n21) ∧ ∀ H25 : Mem, H25 = upA H19 ((H19 (v0 : Int).toNat 24) : Int).toNat (up1 (H19 ((H19 (v0 : Int).toNat 24) : Int).toNat) ((H19 (v0 : Int).toNat 27) : Int).toNat v2) → (inI ((H25 (v0 : Int).toNat 27) + 1)) ∧ ∀ H27 : Mem, H27 = upA H25 (v0 : Int).toNat (up1 (H25 (v0 : Int).toNat) 27 ((H25 (v0 : Int).toNat 27) + 1)) → ∀ H28 : Mem, H28 = upA H27 (v0 : Int).toNat (up1 (H27 (v0 : Int).toNat) 0 0) → (inI ((H28 (v0 : Int).toNat 27) - 1)) ∧ q ((H28 (v0 : Int).toNat 27) - 1) H28) ∧ (((H8 (v0 : Int).toNat 27) : Int) = 8 → Ci mX12_refuse d [(2, v0), (0, 3)] K H8 (fun x31 H30 => q x31 H30)))) ∧ ((x9 : Int) = 0 → ((0 : Int) ≤ v0) ∧ (K[(v0 : Int).toNat]? = some (12, 51)) ∧ Ci mX12_refuse d [(2, v0), (0, 2)] K H8 (fun x35 H34 => q x35 H34)))))))) : FX12_pair_0 d K H q (v0) (v1) (v2) := by
  unfold FX12_pair_0
  refine r_iload_n 1 dX12_pair_0 rfl rfl ?_
  refine r_invS (M := mX12_pair) (As := [(0, v1)]) (st := []) (mc := 0) (ms := 0) (fc := 0) (fs := 0) h ok_X12_isNumber sm_X12_isNumber ml_RX12_226 dX12_pair_1 rfl (Nat.le_of_ble_eq_true rfl) rfl ?_
  rintro r K1 H1 ⟨rfl, x2, rfl, h⟩ -
  show Fr mX12_pair (d + 1) 0 0 none 4 [(0, (2, v0)), (1, (0, v1)), (2, (0, v2))] [(0, x2)] _ H1 _
  refine r_if_eq (tgt := 14) dX12_pair_4 (by decide) (fun c3 => ?_) (fun c3 => ?_)
  · replace h := h.1 c3
    refine r_aload_n 0 dX12_pair_14 rfl rfl ?_
    refine r_iconst dX12_pair_15 (by decide) (by decide) ?_
    obtain ⟨h4, h⟩ := h
    obtain ⟨h5, h⟩ := h
    refine r_invV (M := mX12_pair) (As := [(0, 2)]) (st := []) (X := v0) (mc := 0) (ms := 0) (fc := 0) (fs := 0) h ok_X12_refuse cls12 im_X12_refuse se_X12_refuse ml_RX12_184 dX12_pair_16 rfl h4 h5 (Nat.le_of_ble_eq_true rfl) rfl ?_
    rintro r K1 H6 ⟨rfl, x7, rfl, h⟩ -
    show Fr mX12_pair (d + 1) 0 0 none 19 [(0, (2, v0)), (1, (0, v1)), (2, (0, v2))] [(0, x7)] _ H6 _
    exact r_iret dX12_pair_19 rfl ⟨rfl, _, rfl, h⟩
  · replace h := h.2 c3
    refine r_iload_n 2 dX12_pair_7 rfl rfl ?_
    refine r_invS (M := mX12_pair) (As := [(0, v2)]) (st := []) (mc := 0) (ms := 0) (fc := 0) (fs := 0) h ok_X12_isNumber sm_X12_isNumber ml_RX12_226 dX12_pair_8 rfl (Nat.le_of_ble_eq_true rfl) rfl ?_
    rintro r K1 H8 ⟨rfl, x9, rfl, h⟩ -
    show Fr mX12_pair (d + 1) 0 0 none 11 [(0, (2, v0)), (1, (0, v1)), (2, (0, v2))] [(0, x9)] _ H8 _
    refine r_if_ne (tgt := 20) dX12_pair_11 (by decide) (fun c10 => ?_) (fun c10 => ?_)
    · replace h := h.1 c10
      refine r_aload_n 0 dX12_pair_20 rfl rfl ?_
      obtain ⟨h11, h⟩ := h
      obtain ⟨h12, h⟩ := h
      refine r_getf cls12 27 dX12_pair_21 (by decide) fl_RX12_246 rfl h11 h12 ?_
      refine r_bipush dX12_pair_24 (by decide) (by decide) ?_
      refine r_icmp_ne (tgt := 35) dX12_pair_26 (by decide) (fun c13 => ?_) (fun c13 => ?_)
      · replace h := h.1 c13
        refine r_aload_n 0 dX12_pair_35 rfl rfl ?_
        refine r_getf cls12 23 dX12_pair_36 (by decide) fl_RX12_52 rfl h11 h12 ?_
        refine r_aload_n 0 dX12_pair_39 rfl rfl ?_
        refine r_getf cls12 27 dX12_pair_40 (by decide) fl_RX12_246 rfl h11 h12 ?_
        refine r_iload_n 1 dX12_pair_43 rfl rfl ?_
        obtain ⟨h14, h⟩ := h
        obtain ⟨n15, h⟩ := h
        obtain ⟨h16, h⟩ := h
        obtain ⟨h17, h⟩ := h
        obtain ⟨h18, h⟩ := h
        refine r_iast n15 dX12_pair_44 h14 h16 h17 h18 ?_
        replace h := h _ rfl
        generalize upA H8 ((H8 (v0 : Int).toNat 23) : Int).toNat (up1 (H8 ((H8 (v0 : Int).toNat 23) : Int).toNat) ((H8 (v0 : Int).toNat 27) : Int).toNat v1) = H19 at h ⊢
        refine r_aload_n 0 dX12_pair_45 rfl rfl ?_
        refine r_getf cls12 24 dX12_pair_46 (by decide) fl_RX12_55 rfl h11 h12 ?_
        refine r_aload_n 0 dX12_pair_49 rfl rfl ?_
        refine r_getf cls12 27 dX12_pair_50 (by decide) fl_RX12_246 rfl h11 h12 ?_
        refine r_iload_n 2 dX12_pair_53 rfl rfl ?_
        obtain ⟨h20, h⟩ := h
        obtain ⟨n21, h⟩ := h
        obtain ⟨h22, h⟩ := h
        obtain ⟨h23, h⟩ := h
        obtain ⟨h24, h⟩ := h
        refine r_iast n21 dX12_pair_54 h20 h22 h23 h24 ?_
        replace h := h _ rfl
        generalize upA H19 ((H19 (v0 : Int).toNat 24) : Int).toNat (up1 (H19 ((H19 (v0 : Int).toNat 24) : Int).toNat) ((H19 (v0 : Int).toNat 27) : Int).toNat v2) = H25 at h ⊢
        refine r_aload_n 0 dX12_pair_55 rfl rfl ?_
        refine r_dup dX12_pair_56 (show (2 : Nat) ≠ 1 by decide) ?_
        refine r_getf cls12 27 dX12_pair_57 (by decide) fl_RX12_246 rfl h11 h12 ?_
        refine r_iconst dX12_pair_60 (by decide) (by decide) ?_
        obtain ⟨h26, h⟩ := h
        refine r_iadd dX12_pair_61 h26 ?_
        refine r_putf cls12 27 dX12_pair_62 (by decide) rfl fl_RX12_246 rfl h11 h12 (fun o => o) ?_
        replace h := h _ rfl
        generalize upA H25 (v0 : Int).toNat (up1 (H25 (v0 : Int).toNat) 27 ((H25 (v0 : Int).toNat 27) + 1)) = H27 at h ⊢
        refine r_aload_n 0 dX12_pair_65 rfl rfl ?_
        refine r_iconst dX12_pair_66 (by decide) (by decide) ?_
        refine r_putf cls12 0 dX12_pair_67 (by decide) rfl fl_RX12_89 rfl h11 h12 (fun o => o) ?_
        replace h := h _ rfl
        generalize upA H27 (v0 : Int).toNat (up1 (H27 (v0 : Int).toNat) 0 0) = H28 at h ⊢
        refine r_aload_n 0 dX12_pair_70 rfl rfl ?_
        refine r_getf cls12 27 dX12_pair_71 (by decide) fl_RX12_246 rfl h11 h12 ?_
        refine r_iconst dX12_pair_74 (by decide) (by decide) ?_
        obtain ⟨h29, h⟩ := h
        refine r_isub dX12_pair_75 h29 ?_
        exact r_iret dX12_pair_76 rfl ⟨rfl, _, rfl, h⟩
      · replace h := h.2 c13
        refine r_aload_n 0 dX12_pair_29 rfl rfl ?_
        refine r_iconst dX12_pair_30 (by decide) (by decide) ?_
        refine r_invV (M := mX12_pair) (As := [(0, 3)]) (st := []) (X := v0) (mc := 0) (ms := 0) (fc := 0) (fs := 0) h ok_X12_refuse cls12 im_X12_refuse se_X12_refuse ml_RX12_184 dX12_pair_31 rfl h11 h12 (Nat.le_of_ble_eq_true rfl) rfl ?_
        rintro r K1 H30 ⟨rfl, x31, rfl, h⟩ -
        show Fr mX12_pair (d + 1) 0 0 none 34 [(0, (2, v0)), (1, (0, v1)), (2, (0, v2))] [(0, x31)] _ H30 _
        exact r_iret dX12_pair_34 rfl ⟨rfl, _, rfl, h⟩
    · replace h := h.2 c10
      refine r_aload_n 0 dX12_pair_14 rfl rfl ?_
      refine r_iconst dX12_pair_15 (by decide) (by decide) ?_
      obtain ⟨h32, h⟩ := h
      obtain ⟨h33, h⟩ := h
      refine r_invV (M := mX12_pair) (As := [(0, 2)]) (st := []) (X := v0) (mc := 0) (ms := 0) (fc := 0) (fs := 0) h ok_X12_refuse cls12 im_X12_refuse se_X12_refuse ml_RX12_184 dX12_pair_16 rfl h32 h33 (Nat.le_of_ble_eq_true rfl) rfl ?_
      rintro r K1 H34 ⟨rfl, x35, rfl, h⟩ -
      show Fr mX12_pair (d + 1) 0 0 none 19 [(0, (2, v0)), (1, (0, v1)), (2, (0, v2))] [(0, x35)] _ H34 _
      exact r_iret dX12_pair_19 rfl ⟨rfl, _, rfl, h⟩
set_option maxHeartbeats 4000000 in
set_option maxRecDepth 20000 in
theorem eX12_pair {d : Nat} {K : Shp} {H : Mem} {q : Int → Mem → Prop} {v0 v1 v2 : Int} (h : inI v1 → inI v2 → Rng K H → FX12_pair_0 d K H q v0 v1 v2) : Ci mX12_pair (d + 1) [(2, v0), (0, v1), (0, v2)] K H q := Call.of rfl (Nat.le_of_ble_eq_true rfl) (fun o r => h (o (0, v1) (by simp)) (o (0, v2) (by simp)) r)
def FX12_clear_0 (d : Nat) (K : Shp) (H : Mem) (q : Int → Mem → Prop) (v0 : Int) : Prop := Fr mX12_clear (d + 1) 0 0 none 0 [(0, (2, v0))] [] K H (qi K q)
set_option maxHeartbeats 4000000 in
set_option maxRecDepth 20000 in
theorem bX12_clear_0 {d : Nat} {K : Shp} {H : Mem} {q : Int → Mem → Prop} {v0 : Int} (h : ((0 : Int) ≤ v0) ∧ (K[(v0 : Int).toNat]? = some (12, 51)) ∧ ∀ H3 : Mem, H3 = upA H (v0 : Int).toNat (up1 (H (v0 : Int).toNat) 27 0) → Ci mX12_is d [(2, v0), (0, 0)] K H3 (fun x5 H4 => ((x5 : Int) = 0 ∨ (x5 : Int) = 1) ∧ q x5 H4)) : FX12_clear_0 d K H q (v0) := by
  unfold FX12_clear_0
  refine r_aload_n 0 dX12_clear_0 rfl rfl ?_
  refine r_iconst dX12_clear_1 (by decide) (by decide) ?_
  obtain ⟨h1, h⟩ := h
  obtain ⟨h2, h⟩ := h
  refine r_putf cls12 27 dX12_clear_2 (by decide) rfl fl_RX12_246 rfl h1 h2 (fun o => o) ?_
  replace h := h _ rfl
  generalize upA H (v0 : Int).toNat (up1 (H (v0 : Int).toNat) 27 0) = H3 at h ⊢
  refine r_aload_n 0 dX12_clear_5 rfl rfl ?_
  refine r_iconst dX12_clear_6 (by decide) (by decide) ?_
  refine r_invV (M := mX12_clear) (As := [(0, 0)]) (st := []) (X := v0) (mc := 0) (ms := 0) (fc := 0) (fs := 0) h ok_X12_is cls12 im_X12_is se_X12_is ml_RX12_181 dX12_clear_7 rfl h1 h2 (Nat.le_of_ble_eq_true rfl) rfl ?_
  rintro r K1 H4 ⟨rfl, x5, rfl, h⟩ -
  show Fr mX12_clear (d + 1) 0 0 none 10 [(0, (2, v0))] [(0, x5)] _ H4 _
  obtain ⟨h6, h⟩ := h
  exact r_zret dX12_clear_10 rfl h6 ⟨rfl, _, rfl, h⟩
set_option maxHeartbeats 4000000 in
set_option maxRecDepth 20000 in
theorem eX12_clear {d : Nat} {K : Shp} {H : Mem} {q : Int → Mem → Prop} {v0 : Int} (h : Rng K H → FX12_clear_0 d K H q v0) : Ci mX12_clear (d + 1) [(2, v0)] K H q := Call.of rfl (Nat.le_of_ble_eq_true rfl) (fun o r => h  r)
def FX12_fails_0 (d : Nat) (K : Shp) (H : Mem) (q : Int → Mem → Prop) (v0 : Int) (v1 : Int) : Prop := Fr mX12_fails (d + 1) 0 0 none 0 [(0, (2, v0)), (1, (0, v1))] [] K H (qi K q)
def FX12_fails_2 (d : Nat) (K : Shp) (H : Mem) (q : Int → Mem → Prop) (v0 : Int) (v1 : Int) (v2 : Int) : Prop := Fr mX12_fails (d + 1) 0 0 none 2 [(0, (2, v0)), (1, (0, v1)), (2, (0, v2))] [] K H (qi K q)
set_option maxHeartbeats 4000000 in
set_option maxRecDepth 20000 in
theorem bX12_fails_0 {d : Nat} {K : Shp} {H : Mem} {q : Int → Mem → Prop} {v0 v1 : Int} (h : FX12_fails_2 d K H q (v0) (v1) (0)) : FX12_fails_0 d K H q (v0) (v1) := by
  unfold FX12_fails_0
  refine r_iconst dX12_fails_0 (by decide) (by decide) ?_
  refine r_istore_n dX12_fails_1 rfl (by decide) rfl ?_
  refine Fr.fewer [1, 2, 0] rfl ?_
  exact h
set_option maxHeartbeats 4000000 in
set_option maxRecDepth 20000 in
theorem bX12_fails_2 {d : Nat} {K : Shp} {H : Mem} {q : Int → Mem → Prop} {v0 v1 v2 : Int} (h : ((0 : Int) ≤ v0) ∧ (K[(v0 : Int).toNat]? = some (12, 51)) ∧ ((¬ (v2 : Int) < (H (v0 : Int).toNat 27) → q (-2) H) ∧ ((v2 : Int) < (H (v0 : Int).toNat 27) → ((0 : Int) ≤ (H (v0 : Int).toNat 23)) ∧ ∃ n5 : Nat, (K[((H (v0 : Int).toNat 23) : Int).toNat]? = some (20, n5)) ∧ ((0 : Int) ≤ v2) ∧ ((v2 : Int) < n5) ∧ ((0 : Int) ≤ (H (v0 : Int).toNat 24)) ∧ ∃ n10 : Nat, (K[((H (v0 : Int).toNat 24) : Int).toNat]? = some (20, n10)) ∧ ((v2 : Int) < n10) ∧ Ci mX12_bears d [(2, v0), (0, v1), (0, (H ((H (v0 : Int).toNat 23) : Int).toNat (v2 : Int).toNat)), (0, (H ((H (v0 : Int).toNat 24) : Int).toNat (v2 : Int).toNat))] K H (fun x14 H13 => ((¬ (x14 : Int) = 0 → (inI (v2 + 1)) ∧ FX12_fails_2 d K H13 q (v0) (v1) ((v2 + 1))) ∧ ((x14 : Int) = 0 → q v2 H13)))))) : FX12_fails_2 d K H q (v0) (v1) (v2) := by
  unfold FX12_fails_2
  refine r_iload_n 2 dX12_fails_2 rfl rfl ?_
  refine r_aload_n 0 dX12_fails_3 rfl rfl ?_
  obtain ⟨h1, h⟩ := h
  obtain ⟨h2, h⟩ := h
  refine r_getf cls12 27 dX12_fails_4 (by decide) fl_RX12_246 rfl h1 h2 ?_
  refine r_icmp_ge (tgt := 38) dX12_fails_7 (by decide) (fun c3 => ?_) (fun c3 => ?_)
  · replace h := h.1 c3
    refine r_bipush dX12_fails_38 (by decide) (by decide) ?_
    exact r_iret dX12_fails_40 rfl ⟨rfl, _, rfl, h⟩
  · replace h := h.2 c3
    refine r_aload_n 0 dX12_fails_10 rfl rfl ?_
    refine r_iload_n 1 dX12_fails_11 rfl rfl ?_
    refine r_aload_n 0 dX12_fails_12 rfl rfl ?_
    refine r_getf cls12 23 dX12_fails_13 (by decide) fl_RX12_52 rfl h1 h2 ?_
    refine r_iload_n 2 dX12_fails_16 rfl rfl ?_
    obtain ⟨h4, h⟩ := h
    obtain ⟨n5, h⟩ := h
    obtain ⟨h6, h⟩ := h
    obtain ⟨h7, h⟩ := h
    obtain ⟨h8, h⟩ := h
    refine r_iald n5 dX12_fails_17 h4 h6 h7 h8 ?_
    refine r_aload_n 0 dX12_fails_18 rfl rfl ?_
    refine r_getf cls12 24 dX12_fails_19 (by decide) fl_RX12_55 rfl h1 h2 ?_
    refine r_iload_n 2 dX12_fails_22 rfl rfl ?_
    obtain ⟨h9, h⟩ := h
    obtain ⟨n10, h⟩ := h
    obtain ⟨h11, h⟩ := h
    obtain ⟨h12, h⟩ := h
    refine r_iald n10 dX12_fails_23 h9 h11 h7 h12 ?_
    refine r_invV (M := mX12_fails) (As := [(0, v1), (0, (H ((H (v0 : Int).toNat 23) : Int).toNat (v2 : Int).toNat)), (0, (H ((H (v0 : Int).toNat 24) : Int).toNat (v2 : Int).toNat))]) (st := []) (X := v0) (mc := 0) (ms := 0) (fc := 0) (fs := 0) h ok_X12_bears cls12 im_X12_bears se_X12_bears ml_RX12_242 dX12_fails_24 rfl h1 h2 (Nat.le_of_ble_eq_true rfl) rfl ?_
    rintro r K1 H13 ⟨rfl, x14, rfl, h⟩ -
    show Fr mX12_fails (d + 1) 0 0 none 27 [(0, (2, v0)), (1, (0, v1)), (2, (0, v2))] [(0, x14)] _ H13 _
    refine r_if_ne (tgt := 32) dX12_fails_27 (by decide) (fun c15 => ?_) (fun c15 => ?_)
    · replace h := h.1 c15
      obtain ⟨h16, h⟩ := h
      refine r_iinc 2 dX12_fails_32 (by decide) rfl h16 rfl ?_
      refine r_goto (tgt := 2) dX12_fails_35 (by decide) ?_
      refine Fr.fewer [1, 2, 0] rfl ?_
      exact h
    · replace h := h.2 c15
      refine r_iload_n 2 dX12_fails_30 rfl rfl ?_
      exact r_iret dX12_fails_31 rfl ⟨rfl, _, rfl, h⟩
set_option maxHeartbeats 4000000 in
set_option maxRecDepth 20000 in
theorem eX12_fails {d : Nat} {K : Shp} {H : Mem} {q : Int → Mem → Prop} {v0 v1 : Int} (h : inI v1 → Rng K H → FX12_fails_0 d K H q v0 v1) : Ci mX12_fails (d + 1) [(2, v0), (0, v1)] K H q := Call.of rfl (Nat.le_of_ble_eq_true rfl) (fun o r => h (o (0, v1) (by simp)) r)
def FX12_safe_0 (d : Nat) (K : Shp) (H : Mem) (q : Int → Mem → Prop) (v0 : Int) (v1 : Int) : Prop := Fr mX12_safe (d + 1) 0 0 none 0 [(0, (2, v0)), (1, (0, v1))] [] K H (qi K q)
set_option maxHeartbeats 4000000 in
set_option maxRecDepth 20000 in
theorem bX12_safe_0 {d : Nat} {K : Shp} {H : Mem} {q : Int → Mem → Prop} {v0 v1 : Int} (h : Ci mX12_isSection d [(0, v1)] K H (fun x2 H1 => ((¬ (x2 : Int) = 0 → ((0 : Int) ≤ v0) ∧ (K[(v0 : Int).toNat]? = some (12, 51)) ∧ ∀ H6 : Mem, H6 = upA H1 (v0 : Int).toNat (up1 (H1 (v0 : Int).toNat) 0 0) → Cv mX12_asTold d [(2, v0), (0, v1)] K H6 (fun H7 => Ci mX12_fails d [(2, v0), (0, v1)] K H7 (fun x10 H9 => q x10 H9))) ∧ ((x2 : Int) = 0 → ((0 : Int) ≤ v0) ∧ (K[(v0 : Int).toNat]? = some (12, 51)) ∧ Ci mX12_refuse d [(2, v0), (0, 1)] K H1 (fun x14 H13 => q x14 H13))))) : FX12_safe_0 d K H q (v0) (v1) := by
  unfold FX12_safe_0
  refine r_iload_n 1 dX12_safe_0 rfl rfl ?_
  refine r_invS (M := mX12_safe) (As := [(0, v1)]) (st := []) (mc := 0) (ms := 0) (fc := 0) (fs := 0) h ok_X12_isSection sm_X12_isSection ml_RX12_177 dX12_safe_1 rfl (Nat.le_of_ble_eq_true rfl) rfl ?_
  rintro r K1 H1 ⟨rfl, x2, rfl, h⟩ -
  show Fr mX12_safe (d + 1) 0 0 none 4 [(0, (2, v0)), (1, (0, v1))] [(0, x2)] _ H1 _
  refine r_if_ne (tgt := 13) dX12_safe_4 (by decide) (fun c3 => ?_) (fun c3 => ?_)
  · replace h := h.1 c3
    refine r_aload_n 0 dX12_safe_13 rfl rfl ?_
    refine r_iconst dX12_safe_14 (by decide) (by decide) ?_
    obtain ⟨h4, h⟩ := h
    obtain ⟨h5, h⟩ := h
    refine r_putf cls12 0 dX12_safe_15 (by decide) rfl fl_RX12_89 rfl h4 h5 (fun o => o) ?_
    replace h := h _ rfl
    generalize upA H1 (v0 : Int).toNat (up1 (H1 (v0 : Int).toNat) 0 0) = H6 at h ⊢
    refine r_aload_n 0 dX12_safe_18 rfl rfl ?_
    refine r_iload_n 1 dX12_safe_19 rfl rfl ?_
    refine r_invV (M := mX12_safe) (As := [(0, v1)]) (st := []) (X := v0) (mc := 0) (ms := 0) (fc := 0) (fs := 0) h ok_X12_asTold cls12 im_X12_asTold se_X12_asTold ml_RX12_195 dX12_safe_20 rfl h4 h5 (Nat.le_of_ble_eq_true rfl) rfl ?_
    rintro r K1 H7 ⟨rfl, rfl, h⟩ -
    show Fr mX12_safe (d + 1) 0 0 none 23 [(0, (2, v0)), (1, (0, v1))] [] _ H7 _
    refine r_aload_n 0 dX12_safe_23 rfl rfl ?_
    refine r_iload_n 1 dX12_safe_24 rfl rfl ?_
    refine r_invV (M := mX12_safe) (As := [(0, v1)]) (st := []) (X := v0) (mc := 0) (ms := 0) (fc := 0) (fs := 0) h ok_X12_fails cls12 im_X12_fails se_X12_fails ml_RX12_249 dX12_safe_25 rfl h4 h5 (Nat.le_of_ble_eq_true rfl) rfl ?_
    rintro r K1 H9 ⟨rfl, x10, rfl, h⟩ -
    show Fr mX12_safe (d + 1) 0 0 none 28 [(0, (2, v0)), (1, (0, v1))] [(0, x10)] _ H9 _
    exact r_iret dX12_safe_28 rfl ⟨rfl, _, rfl, h⟩
  · replace h := h.2 c3
    refine r_aload_n 0 dX12_safe_7 rfl rfl ?_
    refine r_iconst dX12_safe_8 (by decide) (by decide) ?_
    obtain ⟨h11, h⟩ := h
    obtain ⟨h12, h⟩ := h
    refine r_invV (M := mX12_safe) (As := [(0, 1)]) (st := []) (X := v0) (mc := 0) (ms := 0) (fc := 0) (fs := 0) h ok_X12_refuse cls12 im_X12_refuse se_X12_refuse ml_RX12_184 dX12_safe_9 rfl h11 h12 (Nat.le_of_ble_eq_true rfl) rfl ?_
    rintro r K1 H13 ⟨rfl, x14, rfl, h⟩ -
    show Fr mX12_safe (d + 1) 0 0 none 12 [(0, (2, v0)), (1, (0, v1))] [(0, x14)] _ H13 _
    exact r_iret dX12_safe_12 rfl ⟨rfl, _, rfl, h⟩
set_option maxHeartbeats 4000000 in
set_option maxRecDepth 20000 in
theorem eX12_safe {d : Nat} {K : Shp} {H : Mem} {q : Int → Mem → Prop} {v0 v1 : Int} (h : inI v1 → Rng K H → FX12_safe_0 d K H q v0 v1) : Ci mX12_safe (d + 1) [(2, v0), (0, v1)] K H q := Call.of rfl (Nat.le_of_ble_eq_true rfl) (fun o r => h (o (0, v1) (by simp)) r)
def FX12_size_0 (d : Nat) (K : Shp) (H : Mem) (q : Int → Mem → Prop) (v0 : Int) (v1 : Int) (v2 : Int) : Prop := Fr mX12_size (d + 1) 0 0 none 0 [(0, (2, v0)), (1, (0, v1)), (2, (0, v2))] [] K H (qi K q)
set_option maxHeartbeats 4000000 in
set_option maxRecDepth 20000 in
theorem bX12_size_0 {d : Nat} {K : Shp} {H : Mem} {q : Int → Mem → Prop} {v0 v1 v2 : Int} (h : (((v1 : Int) < 1 → ((0 : Int) ≤ v0) ∧ (K[(v0 : Int).toNat]? = some (12, 51)) ∧ Ci mX12_refuse d [(2, v0), (0, 2)] K H (fun x5 H4 => q x5 H4)) ∧ (¬ (v1 : Int) < 1 → ((¬ (v1 : Int) ≤ 200 → ((0 : Int) ≤ v0) ∧ (K[(v0 : Int).toNat]? = some (12, 51)) ∧ Ci mX12_refuse d [(2, v0), (0, 2)] K H (fun x10 H9 => q x10 H9)) ∧ ((v1 : Int) ≤ 200 → (((v2 : Int) < 1 → ((0 : Int) ≤ v0) ∧ (K[(v0 : Int).toNat]? = some (12, 51)) ∧ Ci mX12_refuse d [(2, v0), (0, 2)] K H (fun x15 H14 => q x15 H14)) ∧ (¬ (v2 : Int) < 1 → (((v2 : Int) ≤ 10000 → ((0 : Int) ≤ v0) ∧ (K[(v0 : Int).toNat]? = some (12, 51)) ∧ ((¬ ((H (v0 : Int).toNat 28) : Int) = 4 → ((0 : Int) ≤ (H (v0 : Int).toNat 25)) ∧ ∃ n21 : Nat, (K[((H (v0 : Int).toNat 25) : Int).toNat]? = some (20, n21)) ∧ ((0 : Int) ≤ (H (v0 : Int).toNat 28)) ∧ (((H (v0 : Int).toNat 28) : Int) < n21) ∧ ∀ H25 : Mem, H25 = upA H ((H (v0 : Int).toNat 25) : Int).toNat (up1 (H ((H (v0 : Int).toNat 25) : Int).toNat) ((H (v0 : Int).toNat 28) : Int).toNat v1) → ((0 : Int) ≤ (H25 (v0 : Int).toNat 26)) ∧ ∃ n27 : Nat, (K[((H25 (v0 : Int).toNat 26) : Int).toNat]? = some (20, n27)) ∧ ((0 : Int) ≤ (H25 (v0 : Int).toNat 28)) ∧ (((H25 (v0 : Int).toNat 28) : Int) < n27) ∧ ∀ H31 : Mem, H31 = upA H25 ((H25 (v0 : Int).toNat 26) : Int).toNat (up1 (H25 ((H25 (v0 : Int).toNat 26) : Int).toNat) ((H25 (v0 : Int).toNat 28) : Int).toNat v2) → (inI ((H31 (v0 : Int).toNat 28) + 1)) ∧ ∀ H33 : Mem, H33 = upA H31 (v0 : Int).toNat (up1 (H31 (v0 : Int).toNat) 28 ((H31 (v0 : Int).toNat 28) + 1)) → ∀ H34 : Mem, H34 = upA H33 (v0 : Int).toNat (up1 (H33 (v0 : Int).toNat) 0 0) → (inI ((H34 (v0 : Int).toNat 28) - 1)) ∧ q ((H34 (v0 : Int).toNat 28) - 1) H34) ∧ (((H (v0 : Int).toNat 28) : Int) = 4 → Ci mX12_refuse d [(2, v0), (0, 3)] K H (fun x37 H36 => q x37 H36)))) ∧ (¬ (v2 : Int) ≤ 10000 → ((0 : Int) ≤ v0) ∧ (K[(v0 : Int).toNat]? = some (12, 51)) ∧ Ci mX12_refuse d [(2, v0), (0, 2)] K H (fun x41 H40 => q x41 H40)))))))))) : FX12_size_0 d K H q (v0) (v1) (v2) := by
  unfold FX12_size_0
  refine r_iload_n 1 dX12_size_0 rfl rfl ?_
  refine r_iconst dX12_size_1 (by decide) (by decide) ?_
  refine r_icmp_lt (tgt := 24) dX12_size_2 (by decide) (fun c1 => ?_) (fun c1 => ?_)
  · replace h := h.1 c1
    refine r_aload_n 0 dX12_size_24 rfl rfl ?_
    refine r_iconst dX12_size_25 (by decide) (by decide) ?_
    obtain ⟨h2, h⟩ := h
    obtain ⟨h3, h⟩ := h
    refine r_invV (M := mX12_size) (As := [(0, 2)]) (st := []) (X := v0) (mc := 0) (ms := 0) (fc := 0) (fs := 0) h ok_X12_refuse cls12 im_X12_refuse se_X12_refuse ml_RX12_184 dX12_size_26 rfl h2 h3 (Nat.le_of_ble_eq_true rfl) rfl ?_
    rintro r K1 H4 ⟨rfl, x5, rfl, h⟩ -
    show Fr mX12_size (d + 1) 0 0 none 29 [(0, (2, v0)), (1, (0, v1)), (2, (0, v2))] [(0, x5)] _ H4 _
    exact r_iret dX12_size_29 rfl ⟨rfl, _, rfl, h⟩
  · replace h := h.2 c1
    refine r_iload_n 1 dX12_size_5 rfl rfl ?_
    refine r_sipush dX12_size_6 (by decide) (by decide) ?_
    refine r_icmp_gt (tgt := 24) dX12_size_9 (by decide) (fun c6 => ?_) (fun c6 => ?_)
    · replace h := h.1 c6
      refine r_aload_n 0 dX12_size_24 rfl rfl ?_
      refine r_iconst dX12_size_25 (by decide) (by decide) ?_
      obtain ⟨h7, h⟩ := h
      obtain ⟨h8, h⟩ := h
      refine r_invV (M := mX12_size) (As := [(0, 2)]) (st := []) (X := v0) (mc := 0) (ms := 0) (fc := 0) (fs := 0) h ok_X12_refuse cls12 im_X12_refuse se_X12_refuse ml_RX12_184 dX12_size_26 rfl h7 h8 (Nat.le_of_ble_eq_true rfl) rfl ?_
      rintro r K1 H9 ⟨rfl, x10, rfl, h⟩ -
      show Fr mX12_size (d + 1) 0 0 none 29 [(0, (2, v0)), (1, (0, v1)), (2, (0, v2))] [(0, x10)] _ H9 _
      exact r_iret dX12_size_29 rfl ⟨rfl, _, rfl, h⟩
    · replace h := h.2 c6
      refine r_iload_n 2 dX12_size_12 rfl rfl ?_
      refine r_iconst dX12_size_13 (by decide) (by decide) ?_
      refine r_icmp_lt (tgt := 24) dX12_size_14 (by decide) (fun c11 => ?_) (fun c11 => ?_)
      · replace h := h.1 c11
        refine r_aload_n 0 dX12_size_24 rfl rfl ?_
        refine r_iconst dX12_size_25 (by decide) (by decide) ?_
        obtain ⟨h12, h⟩ := h
        obtain ⟨h13, h⟩ := h
        refine r_invV (M := mX12_size) (As := [(0, 2)]) (st := []) (X := v0) (mc := 0) (ms := 0) (fc := 0) (fs := 0) h ok_X12_refuse cls12 im_X12_refuse se_X12_refuse ml_RX12_184 dX12_size_26 rfl h12 h13 (Nat.le_of_ble_eq_true rfl) rfl ?_
        rintro r K1 H14 ⟨rfl, x15, rfl, h⟩ -
        show Fr mX12_size (d + 1) 0 0 none 29 [(0, (2, v0)), (1, (0, v1)), (2, (0, v2))] [(0, x15)] _ H14 _
        exact r_iret dX12_size_29 rfl ⟨rfl, _, rfl, h⟩
      · replace h := h.2 c11
        refine r_iload_n 2 dX12_size_17 rfl rfl ?_
        refine r_sipush dX12_size_18 (by decide) (by decide) ?_
        refine r_icmp_le (tgt := 30) dX12_size_21 (by decide) (fun c16 => ?_) (fun c16 => ?_)
        · replace h := h.1 c16
          refine r_aload_n 0 dX12_size_30 rfl rfl ?_
          obtain ⟨h17, h⟩ := h
          obtain ⟨h18, h⟩ := h
          refine r_getf cls12 28 dX12_size_31 (by decide) fl_RX12_252 rfl h17 h18 ?_
          refine r_iconst dX12_size_34 (by decide) (by decide) ?_
          refine r_icmp_ne (tgt := 44) dX12_size_35 (by decide) (fun c19 => ?_) (fun c19 => ?_)
          · replace h := h.1 c19
            refine r_aload_n 0 dX12_size_44 rfl rfl ?_
            refine r_getf cls12 25 dX12_size_45 (by decide) fl_RX12_58 rfl h17 h18 ?_
            refine r_aload_n 0 dX12_size_48 rfl rfl ?_
            refine r_getf cls12 28 dX12_size_49 (by decide) fl_RX12_252 rfl h17 h18 ?_
            refine r_iload_n 1 dX12_size_52 rfl rfl ?_
            obtain ⟨h20, h⟩ := h
            obtain ⟨n21, h⟩ := h
            obtain ⟨h22, h⟩ := h
            obtain ⟨h23, h⟩ := h
            obtain ⟨h24, h⟩ := h
            refine r_iast n21 dX12_size_53 h20 h22 h23 h24 ?_
            replace h := h _ rfl
            generalize upA H ((H (v0 : Int).toNat 25) : Int).toNat (up1 (H ((H (v0 : Int).toNat 25) : Int).toNat) ((H (v0 : Int).toNat 28) : Int).toNat v1) = H25 at h ⊢
            refine r_aload_n 0 dX12_size_54 rfl rfl ?_
            refine r_getf cls12 26 dX12_size_55 (by decide) fl_RX12_61 rfl h17 h18 ?_
            refine r_aload_n 0 dX12_size_58 rfl rfl ?_
            refine r_getf cls12 28 dX12_size_59 (by decide) fl_RX12_252 rfl h17 h18 ?_
            refine r_iload_n 2 dX12_size_62 rfl rfl ?_
            obtain ⟨h26, h⟩ := h
            obtain ⟨n27, h⟩ := h
            obtain ⟨h28, h⟩ := h
            obtain ⟨h29, h⟩ := h
            obtain ⟨h30, h⟩ := h
            refine r_iast n27 dX12_size_63 h26 h28 h29 h30 ?_
            replace h := h _ rfl
            generalize upA H25 ((H25 (v0 : Int).toNat 26) : Int).toNat (up1 (H25 ((H25 (v0 : Int).toNat 26) : Int).toNat) ((H25 (v0 : Int).toNat 28) : Int).toNat v2) = H31 at h ⊢
            refine r_aload_n 0 dX12_size_64 rfl rfl ?_
            refine r_dup dX12_size_65 (show (2 : Nat) ≠ 1 by decide) ?_
            refine r_getf cls12 28 dX12_size_66 (by decide) fl_RX12_252 rfl h17 h18 ?_
            refine r_iconst dX12_size_69 (by decide) (by decide) ?_
            obtain ⟨h32, h⟩ := h
            refine r_iadd dX12_size_70 h32 ?_
            refine r_putf cls12 28 dX12_size_71 (by decide) rfl fl_RX12_252 rfl h17 h18 (fun o => o) ?_
            replace h := h _ rfl
            generalize upA H31 (v0 : Int).toNat (up1 (H31 (v0 : Int).toNat) 28 ((H31 (v0 : Int).toNat 28) + 1)) = H33 at h ⊢
            refine r_aload_n 0 dX12_size_74 rfl rfl ?_
            refine r_iconst dX12_size_75 (by decide) (by decide) ?_
            refine r_putf cls12 0 dX12_size_76 (by decide) rfl fl_RX12_89 rfl h17 h18 (fun o => o) ?_
            replace h := h _ rfl
            generalize upA H33 (v0 : Int).toNat (up1 (H33 (v0 : Int).toNat) 0 0) = H34 at h ⊢
            refine r_aload_n 0 dX12_size_79 rfl rfl ?_
            refine r_getf cls12 28 dX12_size_80 (by decide) fl_RX12_252 rfl h17 h18 ?_
            refine r_iconst dX12_size_83 (by decide) (by decide) ?_
            obtain ⟨h35, h⟩ := h
            refine r_isub dX12_size_84 h35 ?_
            exact r_iret dX12_size_85 rfl ⟨rfl, _, rfl, h⟩
          · replace h := h.2 c19
            refine r_aload_n 0 dX12_size_38 rfl rfl ?_
            refine r_iconst dX12_size_39 (by decide) (by decide) ?_
            refine r_invV (M := mX12_size) (As := [(0, 3)]) (st := []) (X := v0) (mc := 0) (ms := 0) (fc := 0) (fs := 0) h ok_X12_refuse cls12 im_X12_refuse se_X12_refuse ml_RX12_184 dX12_size_40 rfl h17 h18 (Nat.le_of_ble_eq_true rfl) rfl ?_
            rintro r K1 H36 ⟨rfl, x37, rfl, h⟩ -
            show Fr mX12_size (d + 1) 0 0 none 43 [(0, (2, v0)), (1, (0, v1)), (2, (0, v2))] [(0, x37)] _ H36 _
            exact r_iret dX12_size_43 rfl ⟨rfl, _, rfl, h⟩
        · replace h := h.2 c16
          refine r_aload_n 0 dX12_size_24 rfl rfl ?_
          refine r_iconst dX12_size_25 (by decide) (by decide) ?_
          obtain ⟨h38, h⟩ := h
          obtain ⟨h39, h⟩ := h
          refine r_invV (M := mX12_size) (As := [(0, 2)]) (st := []) (X := v0) (mc := 0) (ms := 0) (fc := 0) (fs := 0) h ok_X12_refuse cls12 im_X12_refuse se_X12_refuse ml_RX12_184 dX12_size_26 rfl h38 h39 (Nat.le_of_ble_eq_true rfl) rfl ?_
          rintro r K1 H40 ⟨rfl, x41, rfl, h⟩ -
          show Fr mX12_size (d + 1) 0 0 none 29 [(0, (2, v0)), (1, (0, v1)), (2, (0, v2))] [(0, x41)] _ H40 _
          exact r_iret dX12_size_29 rfl ⟨rfl, _, rfl, h⟩
set_option maxHeartbeats 4000000 in
set_option maxRecDepth 20000 in
theorem eX12_size {d : Nat} {K : Shp} {H : Mem} {q : Int → Mem → Prop} {v0 v1 v2 : Int} (h : inI v1 → inI v2 → Rng K H → FX12_size_0 d K H q v0 v1 v2) : Ci mX12_size (d + 1) [(2, v0), (0, v1), (0, v2)] K H q := Call.of rfl (Nat.le_of_ble_eq_true rfl) (fun o r => h (o (0, v1) (by simp)) (o (0, v2) (by simp)) r)
