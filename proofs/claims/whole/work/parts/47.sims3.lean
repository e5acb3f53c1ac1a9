/-! side by side: change, told, strength, width, borne, safe -/
section S3
variable {d : Nat} {K : Shp} {H : Mem} {X M : Nat} {q : Int → Int → Mem → Prop} {a b c : Int}
set_option maxHeartbeats 2000000 in
theorem sim_change (h : Inv K H X M) (hq : ∀ r H', Inv K H' X M → q r r H') : Ci mX11_change (d + 12) [(2, (X : Int)), (0, a), (0, b), (0, c)] K H (fun r H1 => Ci mX12_change (d + 12) [(2, (M : Int)), (0, a), (0, b), (0, c)] K H1 (fun r' H2 => q r r' H2)) := by
  have hI := h
  obtain ⟨hM, hS, hR, hScr, hC, hRP, ⟨nb, nr, np, nz, nsp, ld, hH⟩, ho, hst⟩ := hI
  have rej : ∀ w : Int, w ≠ 0 → ∀ H1, H1 = upA H X (up1 (H X) 0 w) → Ci mX12_is (d + 11) [(2, (M : Int)), (0, w)] K H1 (fun x H2 => (x = 0 ∨ x = 1) ∧ q 0 x H2) := fun w hw H1 e1 => sp_X12_is0 hR.k0 hw (fun H2 e2 => ⟨Or.inl rfl, hq _ _ (h.stat e1 e2)⟩)
  refine eX11_change fun _ _ _ _ => bX11_change_0 ?_
  simp only [Int.toNat_natCast, Option.some.injEq, Prod.mk.injEq, true_and, and_true, exists_eq_left', hS.1]
  by_cases ha : 0 ≤ a ∧ a ≤ 3
  · obtain ⟨i, rfl⟩ : ∃ i : Nat, a = (i : Int) := ⟨a.toNat, by omega⟩
    have hi : i < 4 := by omega
    obtain ⟨⟨sI, sR, sS⟩, sB⟩ := hH.1 i hi
    have sI' := sI
    obtain ⟨hk, hp, hn, hr, hf, hz, hB, hRo, hS5, h2, hE⟩ := sI'
    have hr6 := hRo.1
    refine ⟨by omega, sp_X11_isRod hS.1 hi hC.1.2.1 hS.2.2.2.1 (hC.2.2.1 i hi) hk.1 hr hr6 ?_⟩
    by_cases hb : 0 ≤ b ∧ b < (nr i : Int)
    · rw [decide_eq_true hb]
      refine ⟨fun _ => sp_X11_isFromTo ?_, fun g => absurd g (by decide)⟩
      by_cases hc : 0 ≤ c ∧ c ≤ 200
      · rw [decide_eq_true hc]
        refine ⟨fun _ => ?_, fun g => absurd g (by decide)⟩
        obtain ⟨r, rfl⟩ : ∃ r : Nat, b = (r : Int) := ⟨b.toNat, by omega⟩
        simp only [Int.toNat_natCast, Option.some.injEq, Prod.mk.injEq, true_and, and_true, exists_eq_left', hC.1.2.1, hS.2.2.2.1, hC.2.2.1 i hi, hk.1, hp.2.2.2.2.1, hk.2.2.2.2.2.1]
        refine ⟨by omega, by omega, by omega, by omega, by omega, by omega, by omega, fun G eG => ?_⟩
        refine sp_X11_allow hS.1 (fun H1 e1 => ⟨Or.inr rfl, ?_⟩)
        have c1 : ∀ x, x ≠ X → x ≠ X + 83 + 10 * i + 5 → H1 x = H x := fun x hx h5 => by rw [e1, upA_ne hx, eG, upA_ne h5]
        have cX : H1 X = up1 (H X) 0 0 := by rw [e1, upA_same, eG, upA_ne (by omega)]
        have c5 : H1 (X + 83 + 10 * i + 5) = up1 (H (X + 83 + 10 * i + 5)) r c := by rw [e1, upA_ne (by omega), eG, upA_same]
        have cM := c1 M (by omega) (by omega)
        refine eX12_change fun _ _ _ _ => bX12_change_0 ?_
        simp only [Int.toNat_natCast, Option.some.injEq, Prod.mk.injEq, true_and, and_true, exists_eq_left', hR.k0]
        refine ⟨by omega, sp_X12_isRod hR (by rw [cM]; exact hRP) hi (nr := nr i) (by rw [c1 _ (by omega) (by omega)]; exact sR.2.2.2.1) ?_⟩
        rw [decide_eq_true hb]
        have e6 : (6 * (i : Int) + (r : Int)).toNat = 6 * i + r := by omega
        refine ⟨fun _ => ⟨fun g => absurd g (by omega), fun _ => ⟨fun _ => ?_, fun g => absurd hc.2 g⟩⟩, fun g => absurd g (by decide)⟩
        simp only [Int.toNat_natCast, Option.some.injEq, Prod.mk.injEq, true_and, and_true, exists_eq_left', cM, hRP.p17, hR.k13, e6]
        refine ⟨⟨by omega, by omega⟩, ⟨by omega, by omega⟩, by omega, by omega, by omega, fun G2 eG2 => ?_⟩
        refine sp_X12_is1 hR.k0 (fun H2 e2 => ⟨Or.inr rfl, ?_⟩)
        have f1 : ∀ x, x ≠ M → x ≠ M + 13 → H2 x = H1 x := fun x x1 x2 => by rw [e2, upA_ne x1, eG2, upA_ne x2]
        have fM : H2 M = up1 (H M) 0 0 := by rw [e2, upA_same, eG2, upA_ne (by omega), cM]
        have f13 : H2 (M + 13) = up1 (H (M + 13)) (6 * i + r) c := by rw [e2, upA_ne (by omega), eG2, upA_same, c1 _ (by omega) (by omega)]
        have g2 : ∀ x, x ≠ X → x ≠ X + 83 + 10 * i + 5 → x ≠ M → x ≠ M + 13 → H2 x = H x := fun x x1 x2 x3 x4 => (f1 x x3 x4).trans (c1 x x1 x2)
        refine hq _ _ (h.sec hi ?_ ?_ ?_ ?_ ?_ ?_ ?_ ?_ ?_)
        · intro x k hk' n1 n2
          by_cases xM : x = M
          · subst xM; rw [fM, up1_ne (by unfold keepP at hk'; omega)]
          · by_cases xX : x = X
            · subst xX; rw [f1 _ (by omega) (by omega), cX, up1_ne (by unfold keepP at hk'; omega)]
            · rw [g2 x xX (by omega) xM (by omega)]
        · intro u j u1 u2 hj hne; rw [g2 _ (by omega) (by omega) (by omega) (by omega)]
        · intro j y hne hy; rw [g2 _ (by omega) (by omega) (by omega) (by omega)]
        · intro j y hne hy; rw [g2 _ (by omega) (by omega) (by omega) (by omega)]
        · intro j y hne hy; rw [f13, up1_ne (by omega)]
        · intro nb2 nr2 np2 nz2 nsp2 ld2 hH2
          obtain ⟨⟨sI2, sR2, sS2⟩, sB2⟩ := hH2.1 i hi
          have en : nr2 i = nr i := by have := sI2.2.2.2.1; rw [hr] at this; omega
          have so : ∀ j, j < 10 → j ≠ 5 → H2 (X + 83 + 10 * i + j) = H (X + 83 + 10 * i + j) := fun j h1 h2 => g2 _ (by omega) (by omega) (by omega) (by omega)
          have s0 := so 0 (by omega) (by omega)
          rw [Nat.add_zero] at s0
          have s5 : H2 (X + 83 + 10 * i + 5) = up1 (H (X + 83 + 10 * i + 5)) r c := by rw [f1 _ (by omega) (by omega), c5]
          refine ⟨nb2 i, nr2 i, ⟨sI2.keepf (fun k _ => by rw [s0]) (fun j h0 h1 h2 => so j (by omega) h2) ?_, ?_, ?_⟩, ?_⟩
          · rw [s5]
            intro j hj
            by_cases ej : j = r
            · subst ej; rw [up1_same]; exact hc
            · rw [up1_ne ej]; exact sI2.2.2.2.2.2.2.2.2.1 j hj
          · unfold RSec at *
            rw [s0, so 1 (by omega) (by omega), so 2 (by omega) (by omega), so 3 (by omega) (by omega), so 4 (by omega) (by omega), g2 (M + 6) (by omega) (by omega) (by omega) (by omega), g2 (M + 7) (by omega) (by omega) (by omega) (by omega), g2 (M + 8) (by omega) (by omega) (by omega) (by omega), g2 (M + 9) (by omega) (by omega) (by omega) (by omega), g2 (M + 10) (by omega) (by omega) (by omega) (by omega), g2 (M + 11) (by omega) (by omega) (by omega) (by omega), g2 (M + 12) (by omega) (by omega) (by omega) (by omega)]
            exact sR2
          · intro j hj
            rw [f13, s5]
            by_cases ej : j = r
            · subst ej; rw [up1_same, up1_same]
            · rw [up1_ne (by omega), up1_ne ej]; exact sS2 j hj
          · unfold bearOf at *
            rw [s0, so 1 (by omega) (by omega), so 2 (by omega) (by omega), so 3 (by omega) (by omega), so 4 (by omega) (by omega), so 9 (by omega) (by omega)]
            exact sB2
        · exact hScr.cells (fun x hx => g2 x (by omega) (by omega) (by omega) (by omega))
        · exact ho.keep (g2 _ (by omega) (by omega) (by omega) (by omega)) (g2 _ (by omega) (by omega) (by omega) (by omega)) (g2 _ (by omega) (by omega) (by omega) (by omega)) (by rw [fM, up1_ne (by decide)])
        · rw [f1 X (by omega) (by omega), cX, fM, up1_same, up1_same]
      · rw [decide_eq_false hc]
        refine ⟨fun g => absurd rfl g, fun _ => sp_X11_deny hS.1 (fun H1 e1 => ⟨Or.inl rfl, ?_⟩)⟩
        have rr := rej 2 (by decide) H1 e1
        have c1 : ∀ x, x ≠ X → H1 x = H x := fun x hx => by rw [e1, upA_ne hx]
        refine eX12_change fun _ _ _ _ => bX12_change_0 ?_
        simp only [Int.toNat_natCast, Option.some.injEq, Prod.mk.injEq, true_and, and_true, exists_eq_left', hR.k0]
        refine ⟨by omega, sp_X12_isRod hR (by rw [c1 M (by omega)]; exact hRP) hi (nr := nr i) (by rw [c1 _ (by omega)]; exact sR.2.2.2.1) ?_⟩
        rw [decide_eq_true hb]
        exact ⟨fun _ => ⟨fun _ => rr, fun g1 => ⟨fun g2 => absurd ⟨by omega, g2⟩ hc, fun _ => rr⟩⟩, fun g => absurd g (by decide)⟩
    · rw [decide_eq_false hb]
      refine ⟨fun g => absurd rfl g, fun _ => sp_X11_deny hS.1 (fun H1 e1 => ⟨Or.inl rfl, ?_⟩)⟩
      have rr := rej 1 (by decide) H1 e1
      have c1 : ∀ x, x ≠ X → H1 x = H x := fun x hx => by rw [e1, upA_ne hx]
      refine eX12_change fun _ _ _ _ => bX12_change_0 ?_
      simp only [Int.toNat_natCast, Option.some.injEq, Prod.mk.injEq, true_and, and_true, exists_eq_left', hR.k0]
      refine ⟨by omega, sp_X12_isRod hR (by rw [c1 M (by omega)]; exact hRP) hi (nr := nr i) (by rw [c1 _ (by omega)]; exact sR.2.2.2.1) ?_⟩
      rw [decide_eq_false hb]
      exact ⟨fun g => absurd rfl g, fun _ => rr⟩
  · refine ⟨by omega, sp_X11_isRod0 hS.1 ha ⟨fun g => absurd rfl g, fun _ => sp_X11_deny hS.1 (fun H1 e1 => ⟨Or.inl rfl, ?_⟩)⟩⟩
    have rr := rej 1 (by decide) H1 e1
    refine eX12_change fun _ _ _ _ => bX12_change_0 ?_
    simp only [Int.toNat_natCast, Option.some.injEq, Prod.mk.injEq, true_and, and_true, exists_eq_left', hR.k0]
    exact ⟨by omega, sp_X12_isRod0 ha ⟨fun g => absurd rfl g, fun _ => rr⟩⟩
set_option maxHeartbeats 2000000 in
theorem sim_strength (h : Inv K H X M) (hq : ∀ r H', Inv K H' X M → q r r H') : Ci mX11_strength (d + 12) [(2, (X : Int)), (0, a), (0, b)] K H (fun r H1 => Ci mX12_strength (d + 12) [(2, (M : Int)), (0, a), (0, b)] K H1 (fun r' H2 => q r r' H2)) := by
  have hI := h
  obtain ⟨hM, hS, hR, hScr, hC, hRP, ⟨nb, nr, np, nz, nsp, ld, hH⟩, ho, hst⟩ := hI
  have rej : ∀ w : Int, ∀ H1, H1 = upA H X (up1 (H X) 0 w) → Ci mX12_refuse (d + 11) [(2, (M : Int)), (0, w)] K H1 (fun x H2 => q (-1) x H2) := fun w H1 e1 => sp_X12_refuse hR.k0 (fun H2 e2 => hq _ _ (h.stat e1 e2))
  refine eX11_strength fun _ _ _ => bX11_strength_0 ?_
  simp only [Int.toNat_natCast, Option.some.injEq, Prod.mk.injEq, true_and, and_true, exists_eq_left', hS.1]
  by_cases ha : 0 ≤ a ∧ a ≤ 3
  · obtain ⟨i, rfl⟩ : ∃ i : Nat, a = (i : Int) := ⟨a.toNat, by omega⟩
    have hi : i < 4 := by omega
    obtain ⟨⟨sI, sR, sS⟩, sB⟩ := hH.1 i hi
    have sI' := sI
    obtain ⟨hk, hp, hn, hr, hf, hz, hB, hRo, hS5, h2, hE⟩ := sI'
    have hr6 := hRo.1
    refine ⟨by omega, sp_X11_isRod hS.1 hi hC.1.2.1 hS.2.2.2.1 (hC.2.2.1 i hi) hk.1 hr hr6 ?_⟩
    have rfs : ∀ H1, (∀ x, x ≠ X → H1 x = H x) → ∀ {q' : Int → Mem → Prop}, ((¬ bI (decide (0 ≤ b ∧ b < (nr i : Int))) = 0 → ∀ H6 : Mem, H6 = upA H1 M (up1 (H1 M) 0 0) → (inI (6 * (i : Int))) ∧ (inI ((6 * (i : Int)) + b)) ∧ ((0 : Int) ≤ (H6 M 17)) ∧ ∃ n10 : Nat, (K[((H6 M 17) : Int).toNat]? = some (20, n10)) ∧ ((0 : Int) ≤ ((6 * (i : Int)) + b)) ∧ ((((6 * (i : Int)) + b) : Int) < n10) ∧ q' (H6 ((H6 M 17) : Int).toNat (((6 * (i : Int)) + b) : Int).toNat) H6) ∧ (bI (decide (0 ≤ b ∧ b < (nr i : Int))) = 0 → Ci mX12_refuse (d + 11) [(2, (M : Int)), (0, 1)] K H1 (fun x H => q' x H))) → Ci mX12_strength (d + 12) [(2, (M : Int)), (0, (i : Int)), (0, b)] K H1 q' := by
      intro H1 c1 q' hh
      refine eX12_strength fun _ _ _ => bX12_strength_0 ?_
      simp only [Int.toNat_natCast, Option.some.injEq, Prod.mk.injEq, true_and, and_true, exists_eq_left', hR.k0]
      refine ⟨by omega, sp_X12_isRod hR (by rw [c1 M (by omega)]; exact hRP) hi (nr := nr i) (by rw [c1 _ (by omega)]; exact sR.2.2.2.1) ?_⟩
      exact hh
    by_cases hb : 0 ≤ b ∧ b < (nr i : Int)
    · rw [decide_eq_true hb]
      obtain ⟨r, rfl⟩ : ∃ r : Nat, b = (r : Int) := ⟨b.toNat, by omega⟩
      refine ⟨fun _ => ?_, fun g => absurd g (by decide)⟩
      simp only [Int.toNat_natCast, Option.some.injEq, Prod.mk.injEq, true_and, and_true, exists_eq_left', hC.1.2.1, hS.2.2.2.1, hC.2.2.1 i hi, hk.1, hp.2.2.2.2.1, hk.2.2.2.2.2.1]
      refine ⟨by omega, by omega, by omega, by omega, by omega, by omega, by omega, sp_X11_give hS.1 (fun H1 e1 => ?_)⟩
      have c1 : ∀ x, x ≠ X → H1 x = H x := fun x hx => by rw [e1, upA_ne hx]
      refine rfs H1 c1 ?_
      rw [decide_eq_true hb]
      refine ⟨fun _ H2 e2 => ?_, fun g => absurd g (by decide)⟩
      have e6 : (6 * (i : Int) + (r : Int)).toNat = 6 * i + r := by omega
      have p17 : H2 M 17 = ((M + 13 : Nat) : Int) := by rw [e2, upA_same, up1_ne (by decide), c1 M (by omega)]; exact hRP.p17
      have v13 : H2 (M + 13) (6 * i + r) = H (X + 83 + 10 * i + 5) r := by rw [e2, upA_ne (by omega), c1 _ (by omega)]; exact sS r (by omega)
      simp only [Int.toNat_natCast, Option.some.injEq, Prod.mk.injEq, true_and, and_true, exists_eq_left', p17, hR.k13, e6, v13]
      exact ⟨⟨by omega, by omega⟩, ⟨by omega, by omega⟩, by omega, by omega, by omega, hq _ _ (h.stat e1 e2)⟩
    · rw [decide_eq_false hb]
      refine ⟨fun g => absurd rfl g, fun _ => sp_X11_refuse hS.1 (fun H1 e1 => ?_)⟩
      refine rfs H1 (fun x hx => by rw [e1, upA_ne hx]) ?_
      rw [decide_eq_false hb]
      exact ⟨fun g => absurd rfl g, fun _ => rej 1 H1 e1⟩
  · refine ⟨by omega, sp_X11_isRod0 hS.1 ha ⟨fun g => absurd rfl g, fun _ => sp_X11_refuse hS.1 (fun H1 e1 => ?_)⟩⟩
    refine eX12_strength fun _ _ _ => bX12_strength_0 ?_
    simp only [Int.toNat_natCast, Option.some.injEq, Prod.mk.injEq, true_and, and_true, exists_eq_left', hR.k0]
    exact ⟨by omega, sp_X12_isRod0 ha ⟨fun g => absurd rfl g, fun _ => rej 1 H1 e1⟩⟩
set_option maxHeartbeats 2000000 in
theorem sim_width (h : Inv K H X M) (hq : ∀ r H', Inv K H' X M → q r r H') : Ci mX11_width (d + 12) [(2, (X : Int)), (0, a), (0, b)] K H (fun r H1 => Ci mX12_width (d + 12) [(2, (M : Int)), (0, a), (0, b)] K H1 (fun r' H2 => q r r' H2)) := by
  have hI := h
  obtain ⟨hM, hS, hR, hScr, hC, hRP, ⟨nb, nr, np, nz, nsp, ld, hH⟩, ho, hst⟩ := hI
  have rej : ∀ w : Int, ∀ H1, H1 = upA H X (up1 (H X) 0 w) → Ci mX12_refuse (d + 11) [(2, (M : Int)), (0, w)] K H1 (fun x H2 => q (-1) x H2) := fun w H1 e1 => sp_X12_refuse hR.k0 (fun H2 e2 => hq _ _ (h.stat e1 e2))
  refine eX11_width fun _ _ _ => bX11_width_0 ?_
  simp only [Int.toNat_natCast, Option.some.injEq, Prod.mk.injEq, true_and, and_true, exists_eq_left', hS.1]
  refine ⟨by omega, sp_X11_isSection ?_⟩
  by_cases ha : 0 ≤ a ∧ a ≤ 3
  · rw [decide_eq_true ha]
    refine ⟨fun _ => sp_X11_isFromTo ?_, fun g => absurd g (by decide)⟩
    by_cases hb : 0 ≤ b ∧ b ≤ 99
    · rw [decide_eq_true hb]
      refine ⟨fun _ => ?_, fun g => absurd g (by decide)⟩
      obtain ⟨i, rfl⟩ : ∃ i : Nat, a = (i : Int) := ⟨a.toNat, by omega⟩
      obtain ⟨y, rfl⟩ : ∃ y : Nat, b = (y : Int) := ⟨b.toNat, by omega⟩
      have hi : i < 4 := by omega
      obtain ⟨⟨sI, sR, sS⟩, sB⟩ := hH.1 i hi
      have sI' := sI
      obtain ⟨hk, hp, hn, hr, hf, hz, hB, hRo, hS5, h2, hE⟩ := sI'
      simp only [Int.toNat_natCast, Option.some.injEq, Prod.mk.injEq, true_and, and_true, exists_eq_left', hC.1.2.1, hS.2.2.2.1, hC.2.2.1 i hi, hk.1]
      refine ⟨by omega, by omega, by omega, by omega, sp_X4_widthAbove hk hp hn hB (sp_X11_give hS.1 (fun H1 e1 => ?_))⟩
      have c1 : ∀ x, x ≠ X → H1 x = H x := fun x hx => by rw [e1, upA_ne hx]
      refine eX12_width fun _ _ _ => bX12_width_0 (sp_X12_isSection ?_)
      rw [decide_eq_true ha]
      refine ⟨fun _ => ⟨fun g => absurd g (by omega), fun _ => ⟨fun _ => ?_, fun g => absurd (by omega) g⟩⟩, fun g => absurd g (by decide)⟩
      simp only [Int.toNat_natCast, Option.some.injEq, Prod.mk.injEq, true_and, and_true, exists_eq_left', hR.k0]
      refine ⟨by omega, fun H2 e2 => ?_⟩
      have e6 : (100 * (i : Int) + (y : Int)).toNat = 100 * i + y := by omega
      have p15 : H2 M 15 = ((M + 11 : Nat) : Int) := by rw [e2, upA_same, up1_ne (by decide), c1 M (by omega)]; exact hRP.p15
      have v11 : H2 (M + 11) (100 * i + y) = wAt (H (X + 83 + 10 * i + 1)) (H (X + 83 + 10 * i + 2)) (H (X + 83 + 10 * i + 3)) (nb i) (y : Int) := by rw [e2, upA_ne (by omega), c1 _ (by omega)]; exact sR.2.2.2.2.2.1 y (by omega)
      simp only [Int.toNat_natCast, Option.some.injEq, Prod.mk.injEq, true_and, and_true, exists_eq_left', p15, hR.k11, e6, v11]
      exact ⟨⟨by omega, by omega⟩, ⟨by omega, by omega⟩, by omega, by omega, by omega, hq _ _ (h.stat e1 e2)⟩
    · rw [decide_eq_false hb]
      refine ⟨fun g => absurd rfl g, fun _ => sp_X11_refuse hS.1 (fun H1 e1 => ?_)⟩
      have rr := rej 2 H1 e1
      refine eX12_width fun _ _ _ => bX12_width_0 (sp_X12_isSection ?_)
      rw [decide_eq_true ha]
      simp only [Int.toNat_natCast, Option.some.injEq, Prod.mk.injEq, true_and, and_true, exists_eq_left', hR.k0]
      exact ⟨fun _ => ⟨fun _ => ⟨by omega, rr⟩, fun g1 => ⟨fun g2 => absurd (show 0 ≤ b ∧ b ≤ 99 by omega) hb, fun _ => ⟨by omega, rr⟩⟩⟩, fun g => absurd g (by decide)⟩
  · rw [decide_eq_false ha]
    refine ⟨fun g => absurd rfl g, fun _ => sp_X11_refuse hS.1 (fun H1 e1 => ?_)⟩
    have rr := rej 1 H1 e1
    refine eX12_width fun _ _ _ => bX12_width_0 (sp_X12_isSection ?_)
    rw [decide_eq_false ha]
    simp only [Int.toNat_natCast, Option.some.injEq, Prod.mk.injEq, true_and, and_true, exists_eq_left', hR.k0]
    exact ⟨fun g => absurd rfl g, fun _ => ⟨by omega, rr⟩⟩
end S3
