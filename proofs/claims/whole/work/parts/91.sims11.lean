/-! side by side: best, chosen, take -/
section Bt
variable {d : Nat} {K : Shp} {H : Mem} {X M : Nat} {q : Int → Int → Mem → Prop} {a b : Int}
set_option maxHeartbeats 2000000 in
theorem sim_best (h : Inv K H X M) (hq : ∀ r H', Inv K H' X M → q r r H') : Ci mX11_best (d + 20) [(2, (X : Int)), (0, a)] K H (fun r H1 => Ci mX12_best (d + 20) [(2, (M : Int)), (0, a)] K H1 (fun r' H2 => q r r' H2)) := by
  have hI := h
  obtain ⟨hM, hS, hR, hScr, hC, hRP, ⟨nb, nr, np, nz, nsp, ld, hH⟩, ho, hst⟩ := hI
  have rej : ∀ w : Int, ∀ H1, H1 = upA H X (up1 (H X) 0 w) → Ci mX12_refuse (d + 19) [(2, (M : Int)), (0, w)] K H1 (fun x H2 => q (-1) x H2) := fun w H1 e1 => sp_X12_refuse hR.k0 (fun H2 e2 => hq _ _ (h.stat e1 e2))
  refine eX11_best fun _ _ => bX11_best_0 ?_
  simp only [Int.toNat_natCast, Option.some.injEq, Prod.mk.injEq, true_and, and_true, exists_eq_left', hS.1]
  refine ⟨by omega, sp_X11_isSection ?_⟩
  by_cases ha : 0 ≤ a ∧ a ≤ 3
  · rw [decide_eq_true ha]
    obtain ⟨i, rfl⟩ : ∃ i : Nat, a = (i : Int) := ⟨a.toNat, by omega⟩
    have hi : i < 4 := by omega
    obtain ⟨C, P, T, z1, z2, z3⟩ := hH.che h hi
    refine ⟨fun _ => ?_, fun g => absurd g (by decide)⟩
    simp only [Int.toNat_natCast, Option.some.injEq, Prod.mk.injEq, true_and, and_true, exists_eq_left', hC.1.2.1, hS.2.2.2.1, hC.1.2.2.2.2.2.2, hS.k73, hC.2.2.1 i hi, hC.1.2.2.1, hC.1.2.2.2.1, C.2.2.2.1.1.1]
    refine ⟨by omega, by omega, by omega, by omega, sp_X1_findBest (d := d + 3) C P T z1 z2 z3 (hH.1 i hi).2 ?_ ?_⟩
    · intro G1 F g14 g15 no
      refine ⟨fun _ => sp_X11_refuse hS.1 (fun H2 e2 => ?_), fun g => absurd rfl g⟩
      have c2 : ∀ x, M ≤ x → H2 x = H x := fun x hx => by rw [e2, upA_ne (by omega), F.1 x (by omega) (by omega) (by omega)]
      refine eX12_best fun _ _ => bX12_best_0 (sp_X12_isSection ?_)
      rw [decide_eq_true ha]
      refine ⟨fun _ => ?_, fun g => absurd g (by decide)⟩
      simp only [Int.toNat_natCast, Option.some.injEq, Prod.mk.injEq, true_and, and_true, exists_eq_left', hR.k0]
      refine ⟨by omega, sp_X12_choose (d := d + 14) (hH.cf h hi c2) ?_ ?_⟩
      · intro G3 C3 _
        refine ⟨fun g => absurd rfl g, fun _ => sp_X12_refuse hR.k0 (fun H4 e4 => hq _ _ ?_)⟩
        have f4 : FC M [0] G3 H4 := by rw [e4]; exact FC.up0 rfl
        have o4 : FO [0] (G3 M) (H4 M) := by rw [e4, upA_same]; exact FO.up rfl
        exact h.fb0 hH hi F (Or.inr ⟨g14, Or.inl ⟨g15, no⟩⟩) e2 (C3.1.same (f4.wide rfl)) ((C3.2.wide (l' := [0, 19, 20, 21, 22, 30]) rfl).same (o4.wide rfl)) rfl rfl (by rw [e4, upA_same, up1_same])
      · intro G3 w C3 ib
        exact absurd ib.2.1 (no w ib.1)
    · intro G1 w F g14 g15 ib g16 pk
      refine ⟨fun g => absurd g (by decide), fun _ => ⟨by omega, sp_X11_give hS.1 (fun H2 e2 => ?_)⟩⟩
      have c2 : ∀ x, M ≤ x → H2 x = H x := fun x hx => by rw [e2, upA_ne (by omega), F.1 x (by omega) (by omega) (by omega)]
      refine eX12_best fun _ _ => bX12_best_0 (sp_X12_isSection ?_)
      rw [decide_eq_true ha]
      refine ⟨fun _ => ?_, fun g => absurd g (by decide)⟩
      simp only [Int.toNat_natCast, Option.some.injEq, Prod.mk.injEq, true_and, and_true, exists_eq_left', hR.k0]
      refine ⟨by omega, sp_X12_choose (d := d + 14) (hH.cf h hi c2) ?_ ?_⟩
      · intro G3 C3 no
        exact absurd ib.2.1 (no w ib.1)
      · intro G3 w' C3 ib' e30 ch
        have ew : w' = w := ib'.unique ib
        rw [ew] at e30
        refine ⟨fun _ H4 e4 => ?_, fun g => absurd g (by decide)⟩
        have f4 : FC M [0] G3 H4 := by rw [e4]; exact FC.up0 rfl
        have o4 : FO [0] (G3 M) (H4 M) := by rw [e4, upA_same]; exact FO.up rfl
        rw [o4 30 rfl, e30, g16]
        exact hq _ _ (h.fb0 hH hi F (Or.inr ⟨g14, Or.inr ⟨g15, w, ib, g16, pk⟩⟩) e2 (C3.1.same (f4.wide rfl)) ((C3.2.wide (l' := [0, 19, 20, 21, 22, 30]) rfl).same (o4.wide rfl)) rfl rfl (by rw [e4, upA_same, up1_same]))
  · rw [decide_eq_false ha]
    refine ⟨fun g => absurd rfl g, fun _ => sp_X11_refuse hS.1 (fun H1 e1 => ?_)⟩
    refine eX12_best fun _ _ => bX12_best_0 (sp_X12_isSection ?_)
    rw [decide_eq_false ha]
    refine ⟨fun g => absurd rfl g, fun _ => ?_⟩
    simp only [Int.toNat_natCast, Option.some.injEq, Prod.mk.injEq, true_and, and_true, exists_eq_left', hR.k0]
    exact ⟨by omega, rej 1 H1 e1⟩
set_option maxHeartbeats 2000000 in
theorem sim_chosen (h : Inv K H X M) (hq : ∀ r H', Inv K H' X M → q r r H') : Ci mX11_chosen (d + 20) [(2, (X : Int)), (0, a), (0, b)] K H (fun r H1 => Ci mX12_chosen (d + 20) [(2, (M : Int)), (0, a), (0, b)] K H1 (fun r' H2 => q r r' H2)) := by
  have hI := h
  obtain ⟨hM, hS, hR, hScr, hC, hRP, ⟨nb, nr, np, nz, nsp, ld, hH⟩, ho, hst⟩ := hI
  have rej : ∀ w : Int, ∀ H1, H1 = upA H X (up1 (H X) 0 w) → Ci mX12_refuse (d + 19) [(2, (M : Int)), (0, w)] K H1 (fun x H2 => q (-1) x H2) := fun w H1 e1 => sp_X12_refuse hR.k0 (fun H2 e2 => hq _ _ (h.stat e1 e2))
  refine eX11_chosen fun _ _ _ => bX11_chosen_0 ?_
  simp only [Int.toNat_natCast, Option.some.injEq, Prod.mk.injEq, true_and, and_true, exists_eq_left', hS.1]
  refine ⟨by omega, ?_⟩
  by_cases ha : 0 ≤ a ∧ a ≤ 3
  · obtain ⟨i, rfl⟩ : ∃ i : Nat, a = (i : Int) := ⟨a.toNat, by omega⟩
    have hi : i < 4 := by omega
    obtain ⟨C, P, T, z1, z2, z3⟩ := hH.che h hi
    have sI := C.2.2.2.1
    have nr6 := sI.2.2.2.2.2.2.2.1.1
    have r9 := (hH.1 i hi).1.2.1.2.2.2.1
    refine sp_X11_isRod hS.1 hi hC.1.2.1 hS.2.2.2.1 (hC.2.2.1 i hi) sI.1.1 sI.2.2.2.1 nr6 ?_
    by_cases hb : 0 ≤ b ∧ b < (nr i : Int)
    · rw [decide_eq_true hb]
      obtain ⟨r, rfl⟩ : ∃ r : Nat, b = (r : Int) := ⟨b.toNat, by omega⟩
      have hr : r < nr i := by omega
      refine ⟨fun _ => ?_, fun g => absurd g (by decide)⟩
      simp only [Int.toNat_natCast, Option.some.injEq, Prod.mk.injEq, true_and, and_true, exists_eq_left', hC.1.2.1, hS.2.2.2.1, hC.1.2.2.2.2.2.2, hS.k73, hC.2.2.1 i hi, hC.1.2.2.1, hC.1.2.2.2.1, sI.1.1]
      refine ⟨by omega, by omega, by omega, by omega, sp_X1_findBest (d := d + 3) C P T z1 z2 z3 (hH.1 i hi).2 ?_ ?_⟩
      · intro G1 F g14 g15 no
        refine ⟨fun _ => sp_X11_refuse hS.1 (fun H2 e2 => ?_), fun g => absurd rfl g⟩
        have c2 : ∀ x, M ≤ x → H2 x = H x := fun x hx => by rw [e2, upA_ne (by omega), F.1 x (by omega) (by omega) (by omega)]
        refine eX12_chosen fun _ _ _ => bX12_chosen_0 ?_
        simp only [Int.toNat_natCast, Option.some.injEq, Prod.mk.injEq, true_and, and_true, exists_eq_left', hR.k0]
        refine ⟨by omega, sp_X12_isRod hR (by rw [c2 M (by omega)]; exact hRP) hi (by rw [c2 (M + 9) (by omega)]; exact r9) ?_⟩
        rw [decide_eq_true hb]
        refine ⟨fun _ => sp_X12_choose (d := d + 14) (hH.cf h hi c2) ?_ ?_, fun g => absurd g (by decide)⟩
        · intro G3 C3 _
          refine ⟨fun g => absurd rfl g, fun _ => sp_X12_refuse hR.k0 (fun H4 e4 => hq _ _ ?_)⟩
          have f4 : FC M [0] G3 H4 := by rw [e4]; exact FC.up0 rfl
          have o4 : FO [0] (G3 M) (H4 M) := by rw [e4, upA_same]; exact FO.up rfl
          exact h.fb0 hH hi F (Or.inr ⟨g14, Or.inl ⟨g15, no⟩⟩) e2 (C3.1.same (f4.wide rfl)) ((C3.2.wide (l' := [0, 19, 20, 21, 22, 30]) rfl).same (o4.wide rfl)) rfl rfl (by rw [e4, upA_same, up1_same])
        · intro G3 w C3 ib
          exact absurd ib.2.1 (no w ib.1)
      · intro G1 w F g14 g15 ib g16 pk
        have p17 : G1 (X + 83 + 10 * i) 17 = ((X + 83 + 10 * i + 9 : Nat) : Int) := by rw [F.2.2.2 17 rfl]; exact sI.2.1.2.2.2.2.2.2.2.2
        simp only [Int.toNat_natCast, Option.some.injEq, Prod.mk.injEq, true_and, and_true, exists_eq_left', p17, sI.1.2.2.2.2.2.2.2.2.2, pk r hr]
        refine ⟨fun g => absurd g (by decide), fun _ => ⟨by omega, by omega, by omega, by omega, sp_X11_give hS.1 (fun H2 e2 => ?_)⟩⟩
        have c2 : ∀ x, M ≤ x → H2 x = H x := fun x hx => by rw [e2, upA_ne (by omega), F.1 x (by omega) (by omega) (by omega)]
        refine eX12_chosen fun _ _ _ => bX12_chosen_0 ?_
        simp only [Int.toNat_natCast, Option.some.injEq, Prod.mk.injEq, true_and, and_true, exists_eq_left', hR.k0]
        refine ⟨by omega, sp_X12_isRod hR (by rw [c2 M (by omega)]; exact hRP) hi (by rw [c2 (M + 9) (by omega)]; exact r9) ?_⟩
        rw [decide_eq_true hb]
        refine ⟨fun _ => sp_X12_choose (d := d + 14) (hH.cf h hi c2) ?_ ?_, fun g => absurd g (by decide)⟩
        · intro G3 C3 no
          exact absurd ib.2.1 (no w ib.1)
        · intro G3 w' C3 ib' e30 ch
          have ew : w' = w := ib'.unique ib
          rw [ew] at ch
          refine ⟨fun _ H4 e4 => ?_, fun g => absurd g (by decide)⟩
          have f4 : FC M [0] G3 H4 := by rw [e4]; exact FC.up0 rfl
          have o4 : FO [0] (G3 M) (H4 M) := by rw [e4, upA_same]; exact FO.up rfl
          have p4 : RefP (H4 M) M := ((hH.cf h hi c2).keep C3).2.1.cong [0] rfl o4
          have ii := hq (codeD (dgt (nz + 1) (nr i) w r)) H4 (h.fb0 hH hi F (Or.inr ⟨g14, Or.inr ⟨g15, w, ib, g16, pk⟩⟩) e2 (C3.1.same (f4.wide rfl)) ((C3.2.wide (l' := [0, 19, 20, 21, 22, 30]) rfl).same (o4.wide rfl)) rfl rfl (by rw [e4, upA_same, up1_same]))
          simp only [Int.toNat_natCast, Option.some.injEq, Prod.mk.injEq, true_and, and_true, exists_eq_left', p4.p29, hR.k19, f4.at 19 rfl, ch r hr]
          refine ⟨by omega, by omega, by omega, fun g => ?_, fun g => ?_⟩
          · have e : ((dgt (nz + 1) (nr i) w r : Nat) : Int) - 1 = codeD (dgt (nz + 1) (nr i) w r) := by
              unfold codeD
              rw [if_neg (by omega)]
              omega
            rw [e]; exact ii
          · have e : codeD (dgt (nz + 1) (nr i) w r) = -2 := by
              unfold codeD
              rw [if_pos (by omega)]
            rw [e] at ii ⊢
            exact ii
    · rw [decide_eq_false hb]
      refine ⟨fun g => absurd rfl g, fun _ => sp_X11_refuse hS.1 (fun H1 e1 => ?_)⟩
      refine eX12_chosen fun _ _ _ => bX12_chosen_0 ?_
      simp only [Int.toNat_natCast, Option.some.injEq, Prod.mk.injEq, true_and, and_true, exists_eq_left', hR.k0]
      refine ⟨by omega, sp_X12_isRod hR (by rw [e1, upA_ne (by omega)]; exact hRP) hi (by rw [e1, upA_ne (by omega)]; exact r9) ?_⟩
      rw [decide_eq_false hb]
      exact ⟨fun g => absurd rfl g, fun _ => rej 1 H1 e1⟩
  · refine sp_X11_isRod0 hS.1 ha ⟨fun g => absurd rfl g, fun _ => sp_X11_refuse hS.1 (fun H1 e1 => ?_)⟩
    refine eX12_chosen fun _ _ _ => bX12_chosen_0 ?_
    simp only [Int.toNat_natCast, Option.some.injEq, Prod.mk.injEq, true_and, and_true, exists_eq_left', hR.k0]
    exact ⟨by omega, sp_X12_isRod0 ha ⟨fun g => absurd rfl g, fun _ => rej 1 H1 e1⟩⟩
end Bt
