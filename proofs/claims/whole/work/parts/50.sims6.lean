/-! side by side: clear, size, span, away, hold -/
section S6
variable {d : Nat} {K : Shp} {H : Mem} {X M : Nat} {q : Int → Int → Mem → Prop} {a b c : Int}
set_option maxHeartbeats 2000000 in
theorem sim_clear (h : Inv K H X M) (hq : ∀ r H', Inv K H' X M → q r r H') : Ci mX11_clear (d + 12) [(2, (X : Int))] K H (fun r H1 => Ci mX12_clear (d + 12) [(2, (M : Int))] K H1 (fun r' H2 => q r r' H2)) := by
  have hI := h
  obtain ⟨hM, hS, hR, hScr, hC, hRP, ⟨nb, nr, np, nz, nsp, ld, hH⟩, ho, hst⟩ := hI
  refine eX11_clear fun _ => bX11_clear_0 ?_
  simp only [Int.toNat_natCast, Option.some.injEq, Prod.mk.injEq, true_and, and_true, exists_eq_left', hS.1]
  refine ⟨by omega, sp_X11_forgetBests hS.1 hC.1.2.1 hS.2.2.2.1 hC.2.2.1 (fun i hi => (hH.1 i hi).1.1.1.1) ?_⟩
  intro G g0 g1 g2
  have gc : ∀ x, x < X + 83 ∨ X + 123 ≤ x → G x = H x := fun x hx => g0 x (fun i hi => by omega)
  simp only [Int.toNat_natCast, Option.some.injEq, Prod.mk.injEq, true_and, and_true, exists_eq_left', gc X (by omega), hC.1.2.2.1, hS.2.2.2.2.1.1]
  refine ⟨by omega, fun G7 e7 => sp_X11_allow hS.1 (fun H1 e1 => ⟨Or.inr rfl, ?_⟩)⟩
  have c1 : ∀ x, x ≠ X → x ≠ X + 15 → H1 x = G x := fun x x0 x1 => by rw [e1, upA_ne x0, e7, upA_ne x1]
  have cX : H1 X = up1 (H X) 0 0 := by rw [e1, upA_same, e7, upA_ne (by omega), gc X (by omega)]
  have c15 : H1 (X + 15) = up1 (H (X + 15)) 0 0 := by rw [e1, upA_ne (by omega), e7, upA_same, gc _ (by omega)]
  have cm : ∀ x, M ≤ x → H1 x = H x := fun x hx => by rw [c1 x (by omega) (by omega), gc x (by omega)]
  refine eX12_clear fun _ => bX12_clear_0 ?_
  simp only [Int.toNat_natCast, Option.some.injEq, Prod.mk.injEq, true_and, and_true, exists_eq_left', hR.k0]
  refine ⟨by omega, fun G3 e3 => sp_X12_is1 hR.k0 (fun H2 e2 => ⟨Or.inr rfl, hq _ _ ?_⟩)⟩
  have fx : ∀ x, x ≠ M → H2 x = H1 x := fun x x0 => by rw [e2, upA_ne x0, e3, upA_ne x0]
  have m2 : H2 M = up1 (up1 (H M) 27 0) 0 0 := by rw [e2, upA_same, e3, upA_same, cm M (by omega)]
  have gX : ∀ x, x < X + 83 + 40 → x ≠ X → x ≠ X + 15 → H2 x = G x := fun x hx x0 x1 => by rw [fx x (by omega), c1 x x0 x1]
  refine h.forget (np := 0) (nz := nz) ?_ ?_ ?_ ?_ ?_ ?_ ?_ ?_ ?_ ?_
  · intro x x0 x1 x2 x3 x4; rw [fx x x3, c1 x x0 (by omega), g0 x x2]
  · intro i hi k hk; rw [gX _ (by omega) (by omega) (by omega), g1 i hi k hk]
  · intro i hi; rw [gX _ (by omega) (by omega) (by omega), g2 i hi]
  · intro k hk; rw [fx X (by omega), cX, up1_ne (by omega)]
  · intro k hk; rw [fx _ (by omega), c15, up1_ne (by omega)]
  · intro k hk; rw [gX _ (by omega) (by omega) (by omega), gc _ (by omega)]
  · rw [m2]; exact (FO.up (l := [0, 27, 28]) rfl).same (FO.up rfl)
  · exact ⟨by rw [fx _ (by omega), c15, up1_same]; rfl, by omega, by rw [m2, up1_ne (by decide), up1_same]; rfl, fun p hp => absurd hp (by omega)⟩
  · have := hH.2.2.1
    unfold SizesOk at *
    rw [gX (X + 18) (by omega) (by omega) (by omega), gX (X + 19) (by omega) (by omega) (by omega), gX (X + 20) (by omega) (by omega) (by omega), gc (X + 18) (by omega), gc (X + 19) (by omega), gc (X + 20) (by omega), fx (M + 17) (by omega), fx (M + 18) (by omega), cm (M + 17) (by omega), cm (M + 18) (by omega), m2, up1_ne (by decide), up1_ne (by decide)]
    exact this
  · rw [m2, up1_same, fx X (by omega), cX, up1_same]
set_option maxHeartbeats 2000000 in
theorem sim_size (h : Inv K H X M) (hq : ∀ r H', Inv K H' X M → q r r H') : Ci mX11_size (d + 12) [(2, (X : Int)), (0, a), (0, b)] K H (fun r H1 => Ci mX12_size (d + 12) [(2, (M : Int)), (0, a), (0, b)] K H1 (fun r' H2 => q r r' H2)) := by
  have hI := h
  obtain ⟨hM, hS, hR, hScr, hC, hRP, ⟨nb, nr, np, nz, nsp, ld, hH⟩, ho, hst⟩ := hI
  have rej : ∀ w : Int, ∀ H1, H1 = upA H X (up1 (H X) 0 w) → Ci mX12_refuse (d + 11) [(2, (M : Int)), (0, w)] K H1 (fun x H2 => q (-1) x H2) := fun w H1 e1 => sp_X12_refuse hR.k0 (fun H2 e2 => hq _ _ (h.stat e1 e2))
  have rf2 : ¬ ((1 ≤ a ∧ a ≤ 200) ∧ 1 ≤ b ∧ b ≤ 10000) → Ci mX11_refuse (d + 11) [(2, (X : Int)), (0, 2)] K H (fun x H1 => Ci mX12_size (d + 12) [(2, (M : Int)), (0, a), (0, b)] K H1 (fun r' H2 => q x r' H2)) := by
    intro hne
    refine sp_X11_refuse hS.1 (fun H1 e1 => ?_)
    have rr := rej 2 H1 e1
    refine eX12_size fun _ _ _ => bX12_size_0 ?_
    simp only [Int.toNat_natCast, Option.some.injEq, Prod.mk.injEq, true_and, and_true, exists_eq_left', hR.k0]
    exact ⟨fun _ => ⟨by omega, rr⟩, fun g1 => ⟨fun g => ⟨by omega, rr⟩, fun g2 => ⟨fun g => ⟨by omega, rr⟩, fun g3 => ⟨fun g4 => absurd ⟨⟨by omega, g2⟩, by omega, g4⟩ hne, fun g => ⟨by omega, rr⟩⟩⟩⟩⟩
  obtain ⟨pr0, pr1, pr2, pr3⟩ := hH.2.2.1
  refine eX11_size fun _ _ _ => bX11_size_0 (sp_X11_isFromTo ?_)
  by_cases ha : 1 ≤ a ∧ a ≤ 200
  · rw [decide_eq_true ha]
    refine ⟨fun g => absurd g (by decide), fun _ => sp_X11_isFromTo ?_⟩
    by_cases hb : 1 ≤ b ∧ b ≤ 10000
    · rw [decide_eq_true hb]
      refine ⟨fun _ => ?_, fun g => absurd g (by decide)⟩
      simp only [Int.toNat_natCast, Option.some.injEq, Prod.mk.injEq, true_and, and_true, exists_eq_left', hS.1, hC.1.2.2.2.1, hS.2.2.2.2.2.1.1, pr0]
      refine ⟨by omega, by omega, fun hlt => ?_, fun hge => ?_⟩
      · refine sp_X11_forgetBests hS.1 hC.1.2.1 hS.2.2.2.1 hC.2.2.1 (fun i hi => (hH.1 i hi).1.1.1.1) ?_
        intro G g0 g1 g2
        have gc : ∀ x, x < X + 83 ∨ X + 123 ≤ x → G x = H x := fun x hx => g0 x (fun i hi => by omega)
        simp only [Int.toNat_natCast, Option.some.injEq, Prod.mk.injEq, true_and, and_true, exists_eq_left', gc X (by omega), hC.1.2.2.2.1, hS.2.2.2.2.2.1.1]
        refine ⟨by omega, Ci.to (sp_X6_add (c := nz) ⟨hS.2.2.2.2.2.1.1, hS.2.2.2.2.2.1.2.1, hS.2.2.2.2.2.1.2.2, by rw [gc _ (by omega)]; exact hC.2.2.2.2.1.1, by rw [gc _ (by omega)]; exact hC.2.2.2.2.1.2⟩ (by rw [gc _ (by omega)]; exact pr0) (by omega)) ?_⟩
        rw [gc (X + 18) (by omega), gc (X + 18 + 1) (by omega), gc (X + 18 + 2) (by omega)]
        refine sp_X11_give hS.1 (fun H1 e1 => ?_)
        have c1 : ∀ x, x ≠ X → x ≠ X + 18 → x ≠ X + 19 → x ≠ X + 20 → H1 x = G x := fun x x0 x1 x2 x3 => by rw [e1, upA_ne x0, upA_ne x1, upA_ne (show x ≠ X + 18 + 2 by omega), upA_ne (show x ≠ X + 18 + 1 by omega)]
        have cX : H1 X = up1 (H X) 0 0 := by rw [e1, upA_same, upA_ne (by omega), upA_ne (by omega), upA_ne (by omega), gc X (by omega)]
        have c15 : H1 (X + 18) = up1 (H (X + 18)) 0 ((nz : Int) + 1) := by rw [e1, upA_ne (by omega), upA_same]
        have c16 : H1 (X + 19) = up1 (H (X + 19)) nz a := by rw [e1, upA_ne (by omega), upA_ne (by omega), upA_ne (by omega), show X + 18 + 1 = X + 19 from rfl, upA_same]
        have c17 : H1 (X + 20) = up1 (H (X + 20)) nz b := by rw [e1, upA_ne (by omega), upA_ne (by omega), show X + 18 + 2 = X + 20 from rfl, upA_same]
        have cm : ∀ x, M ≤ x → H1 x = H x := fun x hx => by rw [c1 x (by omega) (by omega) (by omega) (by omega), gc x (by omega)]
        have cM := cm M (by omega)
        refine eX12_size fun _ _ _ => bX12_size_0 ⟨fun g => absurd g (by omega), fun _ => ⟨fun g => absurd ha.2 g, fun _ => ⟨fun g => absurd g (by omega), fun _ => ⟨fun _ => ?_, fun g => absurd hb.2 g⟩⟩⟩⟩
        simp only [Int.toNat_natCast, Option.some.injEq, Prod.mk.injEq, true_and, and_true, exists_eq_left', hR.k0, cM, hRP.p25, hR.k17, pr2]
        refine ⟨by omega, fun _ => ⟨by omega, by omega, by omega, fun H2 e2 => ?_⟩, fun g => absurd g (by omega)⟩
        have d2 : ∀ x, x ≠ M + 17 → H2 x = H1 x := fun x hx => by rw [e2, upA_ne hx]
        have m2 : H2 M = H M := (d2 M (by omega)).trans cM
        simp only [Int.toNat_natCast, Option.some.injEq, Prod.mk.injEq, true_and, and_true, exists_eq_left', m2, hRP.p26, hR.k18, pr2]
        refine ⟨by omega, by omega, by omega, fun H3 e3 => ?_⟩
        have d3 : ∀ x, x ≠ M + 18 → H3 x = H2 x := fun x hx => by rw [e3, upA_ne hx]
        have m3 : H3 M = H M := (d3 M (by omega)).trans m2
        simp only [Int.toNat_natCast, Option.some.injEq, Prod.mk.injEq, true_and, and_true, exists_eq_left', m3, pr2]
        refine ⟨⟨by omega, by omega⟩, fun H4 e4 H5 e5 => ?_⟩
        have d5 : ∀ x, x ≠ M → H5 x = H3 x := fun x hx => by rw [e5, upA_ne hx, e4, upA_ne hx]
        have m5 : H5 M = up1 (up1 (H M) 28 ((nz : Int) + 1)) 0 0 := by rw [e5, upA_same, e4, upA_same]
        have v28 : H5 M 28 = (nz : Int) + 1 := by rw [m5, up1_ne (by decide), up1_same]
        rw [v28, show (nz : Int) + 1 - 1 = (nz : Int) by omega]
        refine ⟨⟨by omega, by omega⟩, hq _ _ ?_⟩
        have f15 : H5 (M + 17) = up1 (H (M + 17)) nz a := by rw [d5 _ (by omega), d3 _ (by omega), e2, upA_same, cm _ (by omega)]
        have f16 : H5 (M + 18) = up1 (H (M + 18)) nz b := by rw [d5 _ (by omega), e3, upA_same, d2 _ (by omega), cm _ (by omega)]
        have fx : ∀ x, x ≠ M → x ≠ M + 17 → x ≠ M + 18 → H5 x = H1 x := fun x x0 x1 x2 => by rw [d5 x x0, d3 x x2, d2 x x1]
        have gX : ∀ x, x < X + 83 + 40 → x ≠ X → x ≠ X + 18 → x ≠ X + 19 → x ≠ X + 20 → H5 x = G x := fun x hx x0 x1 x2 x3 => by rw [fx x (by omega) (by omega) (by omega), c1 x x0 x1 x2 x3]
        refine h.forget (np := np) (nz := nz + 1) ?_ ?_ ?_ ?_ ?_ ?_ ?_ ?_ ?_ ?_
        · intro x x0 x1 x2 x3 x4
          rw [fx x x3 (by omega) (by omega), c1 x x0 (by omega) (by omega) (by omega), g0 x x2]
        · intro i hi k hk; rw [gX _ (by omega) (by omega) (by omega) (by omega) (by omega), g1 i hi k hk]
        · intro i hi; rw [gX _ (by omega) (by omega) (by omega) (by omega) (by omega), g2 i hi]
        · intro k hk; rw [fx X (by omega) (by omega) (by omega), cX, up1_ne (by omega)]
        · intro k hk; rw [gX _ (by omega) (by omega) (by omega) (by omega) (by omega), gc _ (by omega)]
        · intro k hk; rw [fx _ (by omega) (by omega) (by omega), c15, up1_ne (by omega)]
        · rw [m5]; exact (FO.up (l := [0, 27, 28]) rfl).same (FO.up rfl)
        · have := hH.2.1
          unfold PairsOk at *
          rw [gX (X + 15) (by omega) (by omega) (by omega) (by omega) (by omega), gX (X + 16) (by omega) (by omega) (by omega) (by omega) (by omega), gX (X + 17) (by omega) (by omega) (by omega) (by omega) (by omega), gc (X + 15) (by omega), gc (X + 16) (by omega), gc (X + 17) (by omega), fx (M + 15) (by omega) (by omega) (by omega), fx (M + 16) (by omega) (by omega) (by omega), cm (M + 15) (by omega), cm (M + 16) (by omega), m5, up1_ne (by decide), up1_ne (by decide)]
          exact this
        · refine ⟨by rw [fx _ (by omega) (by omega) (by omega), c15, up1_same]; rfl, by omega, v28, fun p hp => ?_⟩
          rw [f15, f16, fx (X + 19) (by omega) (by omega) (by omega), fx (X + 20) (by omega) (by omega) (by omega), c16, c17]
          by_cases ep : p = nz
          · subst ep; rw [up1_same, up1_same, up1_same, up1_same]; exact ⟨rfl, rfl, ha, hb⟩
          · rw [up1_ne ep, up1_ne ep, up1_ne ep, up1_ne ep]; exact pr3 p (by omega)
        · rw [m5, up1_same, fx X (by omega) (by omega) (by omega), cX, up1_same]
      · refine sp_X11_refuse hS.1 (fun H1 e1 => ?_)
        have rr := rej 3 H1 e1
        have c1 : ∀ x, x ≠ X → H1 x = H x := fun x hx => by rw [e1, upA_ne hx]
        refine eX12_size fun _ _ _ => bX12_size_0 ⟨fun g => absurd g (by omega), fun _ => ⟨fun g => absurd ha.2 g, fun _ => ⟨fun g => absurd g (by omega), fun _ => ⟨fun _ => ?_, fun g => absurd hb.2 g⟩⟩⟩⟩
        simp only [Int.toNat_natCast, Option.some.injEq, Prod.mk.injEq, true_and, and_true, exists_eq_left', hR.k0, c1 M (by omega), pr2]
        exact ⟨by omega, fun g => absurd (by omega) g, fun _ => rr⟩
    · rw [decide_eq_false hb]
      simp only [Int.toNat_natCast, Option.some.injEq, Prod.mk.injEq, true_and, and_true, exists_eq_left', hS.1]
      exact ⟨fun g => absurd rfl g, fun _ => ⟨by omega, rf2 (fun z => hb z.2)⟩⟩
  · rw [decide_eq_false ha]
    simp only [Int.toNat_natCast, Option.some.injEq, Prod.mk.injEq, true_and, and_true, exists_eq_left', hS.1]
    exact ⟨fun _ => ⟨by omega, rf2 (fun z => ha z.1)⟩, fun g => absurd rfl g⟩
set_option maxHeartbeats 2000000 in
theorem sim_away (h : Inv K H X M) (hq : ∀ r H', Inv K H' X M → q r r H') : Ci mX11_away (d + 12) [(2, (X : Int))] K H (fun r H1 => Ci mX12_away (d + 12) [(2, (M : Int))] K H1 (fun r' H2 => q r r' H2)) := by
  have hI := h
  obtain ⟨hM, hS, hR, hScr, hC, hRP, ⟨nb, nr, np, nz, nsp, ld, hH⟩, ho, hst⟩ := hI
  refine eX11_away fun _ => bX11_away_0 ?_
  simp only [Int.toNat_natCast, Option.some.injEq, Prod.mk.injEq, true_and, and_true, exists_eq_left', hS.1, hC.1.2.2.2.2.1, hS.2.2.2.2.2.2.1]
  refine ⟨by omega, by omega, fun G eG => sp_X11_allow hS.1 (fun H1 e1 => ⟨Or.inr rfl, ?_⟩)⟩
  have c1 : ∀ x, x ≠ X → x ≠ X + 21 → H1 x = H x := fun x x0 x1 => by rw [e1, upA_ne x0, eG, upA_ne x1]
  have cX : H1 X = up1 (H X) 0 0 := by rw [e1, upA_same, eG, upA_ne (by omega)]
  have c21 : H1 (X + 21) = up1 (H (X + 21)) 0 0 := by rw [e1, upA_ne (by omega), eG, upA_same]
  refine eX12_away fun _ => bX12_away_0 ?_
  simp only [Int.toNat_natCast, Option.some.injEq, Prod.mk.injEq, true_and, and_true, exists_eq_left', hR.k0]
  refine ⟨by omega, fun G3 e3 => sp_X12_is1 hR.k0 (fun H2 e2 => ⟨Or.inr rfl, hq _ _ ?_⟩)⟩
  have fx : ∀ x, x ≠ M → H2 x = H1 x := fun x x0 => by rw [e2, upA_ne x0, e3, upA_ne x0]
  have m2 : H2 M = up1 (up1 (H M) 37 0) 0 0 := by rw [e2, upA_same, e3, upA_same, c1 M (by omega) (by omega)]
  refine h.beam (nsp := 0) (ld := ld) ?_ ?_ ?_ ?_ ?_ ?_ ?_
  · intro x x0 x1 x2 x3 x4 x5; rw [fx x x4, c1 x x0 x1]
  · intro k hk; rw [fx X (by omega), cX, up1_ne (by omega)]
  · intro k hk; rw [fx _ (by omega), c21, up1_ne (by omega)]
  · intro x k h1 h2 h3; rw [fx x (by omega), c1 x (by omega) (by omega)]
  · rw [m2]; exact (FO.up (l := [0, 37]) rfl).same (FO.up rfl)
  · refine ⟨by rw [fx _ (by omega), c21, up1_same]; rfl, by omega, by rw [m2, up1_ne (by decide), up1_same]; rfl, fun i hi => absurd hi (by omega), ?_⟩
    rw [fx (M + 25) (by omega), c1 (M + 25) (by omega) (by omega), fx (X + 23) (by omega), c1 (X + 23) (by omega) (by omega)]
    exact hH.2.2.2.2.2.2.2
  · rw [m2, up1_same, fx X (by omega), cX, up1_same]
set_option maxHeartbeats 2000000 in
theorem sim_hold (h : Inv K H X M) (hb : b = 0 ∨ b = 1) (hq : ∀ r H', Inv K H' X M → q r r H') : Ci mX11_hold (d + 12) [(2, (X : Int)), (0, a), (0, b)] K H (fun r H1 => Ci mX12_hold (d + 12) [(2, (M : Int)), (0, a), (0, b)] K H1 (fun r' H2 => q r r' H2)) := by
  have hI := h
  obtain ⟨hM, hS, hR, hScr, hC, hRP, ⟨nb, nr, np, nz, nsp, ld, hH⟩, ho, hst⟩ := hI
  have rej : ∀ w : Int, w ≠ 0 → ∀ H1, H1 = upA H X (up1 (H X) 0 w) → Ci mX12_is (d + 11) [(2, (M : Int)), (0, w)] K H1 (fun x H2 => (x = 0 ∨ x = 1) ∧ q 0 x H2) := fun w hw H1 e1 => sp_X12_is0 hR.k0 hw (fun H2 e2 => ⟨Or.inl rfl, hq _ _ (h.stat e1 e2)⟩)
  obtain ⟨b1, b2, b3, b4, b5⟩ := hH.2.2.2
  refine eX11_hold fun _ _ _ => bX11_hold_0 (sp_X11_isFromTo ?_)
  by_cases ha : 0 ≤ a ∧ a ≤ 1
  · rw [decide_eq_true ha]
    refine ⟨fun _ => ?_, fun g => absurd g (by decide)⟩
    obtain ⟨i, rfl⟩ : ∃ i : Nat, a = (i : Int) := ⟨a.toNat, by omega⟩
    have hi : i < 2 := by omega
    obtain ⟨p1, p2⟩ := b5 i hi
    simp only [Int.toNat_natCast, Option.some.injEq, Prod.mk.injEq, true_and, and_true, exists_eq_left', hS.1, hC.1.2.2.2.2.1, hS.2.2.2.2.2.2.1, hC.2.2.2.2.2.1.2.1, hS.2.2.2.2.2.2.2.2.1]
    refine ⟨by omega, by omega, by omega, by omega, by omega, fun hne => ⟨hb, fun G eG => sp_X11_allow hS.1 (fun H1 e1 => ⟨Or.inr rfl, ?_⟩)⟩, fun heq => sp_X11_deny hS.1 (fun H1 e1 => ⟨Or.inl rfl, ?_⟩)⟩
    · have c1 : ∀ x, x ≠ X → x ≠ X + 23 → H1 x = H x := fun x x0 x1 => by rw [e1, upA_ne x0, eG, upA_ne x1]
      have cX : H1 X = up1 (H X) 0 0 := by rw [e1, upA_same, eG, upA_ne (by omega)]
      have c23 : H1 (X + 23) = up1 (H (X + 23)) i b := by rw [e1, upA_ne (by omega), eG, upA_same]
      refine eX12_hold fun _ _ _ => bX12_hold_0 ⟨fun g => absurd g (by omega), fun _ => ⟨fun _ => ?_, fun g => absurd ha.2 g⟩⟩
      simp only [Int.toNat_natCast, Option.some.injEq, Prod.mk.injEq, true_and, and_true, exists_eq_left', hR.k0, c1 M (by omega) (by omega), hRP.p36, hR.k25, c1 (M + 25) (by omega) (by omega), p1]
      refine ⟨by omega, by omega, by omega, by omega, fun _ => ⟨hb, fun G3 e3 => sp_X12_is1 hR.k0 (fun H2 e2 => ⟨Or.inr rfl, hq _ _ ?_⟩)⟩, fun g => absurd g hne⟩
      have fx : ∀ x, x ≠ M → x ≠ M + 25 → H2 x = H1 x := fun x x0 x1 => by rw [e2, upA_ne x0, e3, upA_ne x1]
      have m2 : H2 M = up1 (H M) 0 0 := by rw [e2, upA_same, e3, upA_ne (by omega), c1 M (by omega) (by omega)]
      have f25 : H2 (M + 25) = up1 (H (M + 25)) i b := by rw [e2, upA_ne (by omega), e3, upA_same]
      refine h.beam (nsp := nsp) (ld := ld) ?_ ?_ ?_ ?_ ?_ ?_ ?_
      · intro x x0 x1 x2 x3 x4 x5; rw [fx x x4 (by omega), c1 x x0 x2]
      · intro k hk; rw [fx X (by omega) (by omega), cX, up1_ne (by omega)]
      · intro k hk; rw [fx _ (by omega) (by omega), c1 _ (by omega) (by omega)]
      · intro x k h1 h2 h3; rw [fx x (by omega) (by omega), c1 x (by omega) (by omega)]
      · rw [m2]; exact FO.up rfl
      · have hb0 : BeamOk H X M nsp ld := ⟨b1, b2, b3, b4, b5⟩
        refine ⟨by rw [fx _ (by omega) (by omega), c1 _ (by omega) (by omega)]; exact b1, b2, by rw [m2, up1_ne (by decide)]; exact b3, fun j hj => ?_, ?_⟩
        · have := b4 j hj
          have ee : ∀ x, x ≠ X → x ≠ X + 23 → x ≠ M → x ≠ M + 25 → H2 x = H x := fun x x0 x1 x2 x3 => by rw [fx x x2 x3, c1 x x0 x1]
          unfold SpanOk at *
          rw [ee (M + 20) (by omega) (by omega) (by omega) (by omega), ee (M + 21) (by omega) (by omega) (by omega) (by omega), ee (M + 22) (by omega) (by omega) (by omega) (by omega), ee (M + 23) (by omega) (by omega) (by omega) (by omega), ee (M + 24) (by omega) (by omega) (by omega) (by omega), ee (X + 54 + 3 * j) (by omega) (by omega) (by omega) (by omega), ee (X + 54 + 3 * j + 1) (by omega) (by omega) (by omega) (by omega), ee (X + 54 + 3 * j + 2) (by omega) (by omega) (by omega) (by omega)]
          exact this
        · intro e he
          rw [f25, fx (X + 23) (by omega) (by omega), c23]
          by_cases ee : e = i
          · subst ee; rw [up1_same, up1_same]; exact ⟨rfl, hb⟩
          · rw [up1_ne ee, up1_ne ee]; exact b5 e he
      · rw [m2, up1_same, fx X (by omega) (by omega), cX, up1_same]
    · have rr := rej 8 (by decide) H1 e1
      have c1 : ∀ x, x ≠ X → H1 x = H x := fun x hx => by rw [e1, upA_ne hx]
      refine eX12_hold fun _ _ _ => bX12_hold_0 ⟨fun g => absurd g (by omega), fun _ => ⟨fun _ => ?_, fun g => absurd ha.2 g⟩⟩
      simp only [Int.toNat_natCast, Option.some.injEq, Prod.mk.injEq, true_and, and_true, exists_eq_left', hR.k0, c1 M (by omega), hRP.p36, hR.k25, c1 (M + 25) (by omega), p1]
      exact ⟨by omega, by omega, by omega, by omega, fun g => absurd heq g, fun _ => rr⟩
  · rw [decide_eq_false ha]
    simp only [Int.toNat_natCast, Option.some.injEq, Prod.mk.injEq, true_and, and_true, exists_eq_left', hS.1]
    refine ⟨fun g => absurd rfl g, fun _ => ⟨by omega, sp_X11_deny hS.1 (fun H1 e1 => ⟨Or.inl rfl, ?_⟩)⟩⟩
    have rr := rej 2 (by decide) H1 e1
    refine eX12_hold fun _ _ _ => bX12_hold_0 ?_
    simp only [Int.toNat_natCast, Option.some.injEq, Prod.mk.injEq, true_and, and_true, exists_eq_left', hR.k0]
    exact ⟨fun _ => ⟨by omega, rr⟩, fun g1 => ⟨fun g2 => absurd ⟨by omega, g2⟩ ha, fun _ => ⟨by omega, rr⟩⟩⟩
theorem sp_X0_addSpan {n : Nat} {qi : Int → Mem → Prop} (hK : K[X + 21]? = some (0, 12)) (hp : H (X + 21) 1 = ((X + 22 : Nat) : Int)) (hK2 : K[X + 22]? = some (24, 5)) (hs : ∀ i, i < 5 → H (X + 22) i = ((X + 54 + 3 * i : Nat) : Int)) (hks : ∀ i, i < 5 → K[X + 54 + 3 * i]? = some (7, 5)) (hc : H (X + 21) 0 = (n : Int)) (hn : n < 5)
    (hq : ∀ H', (∀ x, x ≠ X + 21 → x ≠ X + 54 + 3 * n → H' x = H x) → H' (X + 21) = up1 (H (X + 21)) 0 ((n : Int) + 1) → H' (X + 54 + 3 * n) = up1 (up1 (up1 (H (X + 54 + 3 * n)) 0 a) 1 b) 2 0 → qi (n : Int) H') : Ci mX0_addSpan d [(2, ((X + 21 : Nat) : Int)), (0, a), (0, b)] K H qi := by
  refine eX0_addSpan fun _ _ _ => bX0_addSpan_0 ?_
  simp only [Int.toNat_natCast, Option.some.injEq, Prod.mk.injEq, true_and, and_true, exists_eq_left', hK, hp, hK2, hc, hs n hn, hks n hn]
  refine ⟨by omega, by omega, by omega, by omega, by omega, fun H1 e1 => ?_⟩
  have c1 : ∀ x, x ≠ X + 54 + 3 * n → H1 x = H x := fun x hx => by rw [e1, upA_ne hx]
  simp only [Int.toNat_natCast, Option.some.injEq, Prod.mk.injEq, true_and, and_true, exists_eq_left', c1 (X + 21) (by omega), hp, hK2, hc, c1 (X + 22) (by omega), hs n hn, hks n hn]
  refine ⟨by omega, by omega, by omega, by omega, fun H2 e2 => ?_⟩
  have c2 : ∀ x, x ≠ X + 54 + 3 * n → H2 x = H x := fun x hx => by rw [e2, upA_ne hx, c1 x hx]
  simp only [Int.toNat_natCast, Option.some.injEq, Prod.mk.injEq, true_and, and_true, exists_eq_left', c2 (X + 21) (by omega), hp, hK2, hc, c2 (X + 22) (by omega), hs n hn, hks n hn]
  refine ⟨by omega, by omega, by omega, by omega, fun H3 e3 => ?_⟩
  have c3 : ∀ x, x ≠ X + 54 + 3 * n → H3 x = H x := fun x hx => by rw [e3, upA_ne hx, c2 x hx]
  simp only [Int.toNat_natCast, Option.some.injEq, Prod.mk.injEq, true_and, and_true, exists_eq_left', c3 (X + 21) (by omega), hc]
  refine ⟨⟨by omega, by omega⟩, fun H4 e4 => ?_⟩
  have v0 : H4 (X + 21) = up1 (H (X + 21)) 0 ((n : Int) + 1) := by rw [e4, upA_same]
  rw [v0, up1_same, show (n : Int) + 1 - 1 = (n : Int) by omega]
  refine ⟨⟨by omega, by omega⟩, hq H4 (fun x x0 x1 => by rw [e4, upA_ne x0, c3 x x1]) v0 ?_⟩
  rw [e4, upA_ne (by omega), e3, upA_same, e2, upA_same, e1, upA_same]
set_option maxHeartbeats 2000000 in
theorem sim_span (h : Inv K H X M) (hq : ∀ r H', Inv K H' X M → q r r H') : Ci mX11_span (d + 12) [(2, (X : Int)), (0, a), (0, b)] K H (fun r H1 => Ci mX12_span (d + 12) [(2, (M : Int)), (0, a), (0, b)] K H1 (fun r' H2 => q r r' H2)) := by
  have hI := h
  obtain ⟨hM, hS, hR, hScr, hC, hRP, ⟨nb, nr, np, nz, nsp, ld, hH⟩, ho, hst⟩ := hI
  have rej : ∀ w : Int, ∀ H1, H1 = upA H X (up1 (H X) 0 w) → Ci mX12_refuse (d + 11) [(2, (M : Int)), (0, w)] K H1 (fun x H2 => q (-1) x H2) := fun w H1 e1 => sp_X12_refuse hR.k0 (fun H2 e2 => hq _ _ (h.stat e1 e2))
  obtain ⟨b1, b2, b3, b4, b5⟩ := hH.2.2.2
  refine eX11_span fun _ _ _ => bX11_span_0 ?_
  simp only [Int.toNat_natCast, Option.some.injEq, Prod.mk.injEq, true_and, and_true, exists_eq_left', hS.1]
  refine ⟨by omega, sp_X11_isSection ?_⟩
  by_cases hb : 0 ≤ b ∧ b ≤ 3
  · rw [decide_eq_true hb]
    refine ⟨fun _ => sp_X11_isFromTo ?_, fun g => absurd g (by decide)⟩
    by_cases ha : 2 ≤ a ∧ a ≤ 50
    · rw [decide_eq_true ha]
      refine ⟨fun _ => ?_, fun g => absurd g (by decide)⟩
      simp only [Int.toNat_natCast, Option.some.injEq, Prod.mk.injEq, true_and, and_true, exists_eq_left', hC.1.2.2.2.2.1, hS.2.2.2.2.2.2.1, b1]
      refine ⟨by omega, fun hlt => ?_, fun hge => sp_X11_refuse hS.1 (fun H1 e1 => ?_)⟩
      · refine sp_X0_addSpan (n := nsp) hS.2.2.2.2.2.2.1 hC.2.2.2.2.2.1.1 hS.2.2.2.2.2.2.2.1 hC.2.2.2.2.2.2.1 (fun i hi => (hS.2.2.2.2.2.2.2.2.2.2.2.1 i hi).1) b1 (by omega) ?_
        intro G g0 g1 g2
        refine sp_X11_give hS.1 (fun H1 e1 => ?_)
        have c1 : ∀ x, x ≠ X → x ≠ X + 21 → x ≠ X + 54 + 3 * nsp → H1 x = H x := fun x x0 x1 x2 => by rw [e1, upA_ne x0, g0 x x1 x2]
        have cX : H1 X = up1 (H X) 0 0 := by rw [e1, upA_same, g0 X (by omega) (by omega)]
        have c21 : H1 (X + 21) = up1 (H (X + 21)) 0 ((nsp : Int) + 1) := by rw [e1, upA_ne (by omega), g1]
        have c54 : H1 (X + 54 + 3 * nsp) = up1 (up1 (up1 (H (X + 54 + 3 * nsp)) 0 a) 1 b) 2 0 := by rw [e1, upA_ne (by omega), g2]
        have cM := c1 M (by omega) (by omega) (by omega)
        refine eX12_span fun _ _ _ => bX12_span_0 (sp_X12_isSection ?_)
        rw [decide_eq_true hb]
        refine ⟨fun _ => ⟨fun g => absurd g (by omega), fun _ => ⟨fun _ => ?_, fun g => absurd ha.2 g⟩⟩, fun g => absurd g (by decide)⟩
        simp only [Int.toNat_natCast, Option.some.injEq, Prod.mk.injEq, true_and, and_true, exists_eq_left', hR.k0, cM, hRP.p31, hR.k20, b3]
        refine ⟨by omega, fun _ => ⟨by omega, by omega, by omega, fun H2 e2 => ?_⟩, fun g => absurd g (by omega)⟩
        have d2 : ∀ x, x ≠ M + 20 → H2 x = H1 x := fun x hx => by rw [e2, upA_ne hx]
        have m2 : H2 M = H M := (d2 M (by omega)).trans cM
        simp only [Int.toNat_natCast, Option.some.injEq, Prod.mk.injEq, true_and, and_true, exists_eq_left', m2, hRP.p32, hR.k21, b3]
        refine ⟨by omega, by omega, by omega, fun H3 e3 => ?_⟩
        have d3 : ∀ x, x ≠ M + 21 → H3 x = H2 x := fun x hx => by rw [e3, upA_ne hx]
        have m3 : H3 M = H M := (d3 M (by omega)).trans m2
        simp only [Int.toNat_natCast, Option.some.injEq, Prod.mk.injEq, true_and, and_true, exists_eq_left', m3, hRP.p33, hR.k22, b3]
        refine ⟨by omega, by omega, by omega, fun H4 e4 => ?_⟩
        have d4 : ∀ x, x ≠ M + 22 → H4 x = H3 x := fun x hx => by rw [e4, upA_ne hx]
        have m4 : H4 M = H M := (d4 M (by omega)).trans m3
        simp only [Int.toNat_natCast, Option.some.injEq, Prod.mk.injEq, true_and, and_true, exists_eq_left', m4, b3]
        refine ⟨⟨by omega, by omega⟩, fun H5 e5 H6 e6 => ?_⟩
        have d6 : ∀ x, x ≠ M → H6 x = H4 x := fun x hx => by rw [e6, upA_ne hx, e5, upA_ne hx]
        have m6 : H6 M = up1 (up1 (H M) 37 ((nsp : Int) + 1)) 0 0 := by rw [e6, upA_same, e5, upA_same]
        have v37 : H6 M 37 = (nsp : Int) + 1 := by rw [m6, up1_ne (by decide), up1_same]
        rw [v37, show (nsp : Int) + 1 - 1 = (nsp : Int) by omega]
        refine ⟨⟨by omega, by omega⟩, hq _ _ ?_⟩
        have f20 : H6 (M + 20) = up1 (H (M + 20)) nsp a := by rw [d6 _ (by omega), d4 _ (by omega), d3 _ (by omega), e2, upA_same, c1 _ (by omega) (by omega) (by omega)]
        have f21 : H6 (M + 21) = up1 (H (M + 21)) nsp b := by rw [d6 _ (by omega), d4 _ (by omega), e3, upA_same, d2 _ (by omega), c1 _ (by omega) (by omega) (by omega)]
        have f22 : H6 (M + 22) = up1 (H (M + 22)) nsp 0 := by rw [d6 _ (by omega), e4, upA_same, d3 _ (by omega), d2 _ (by omega), c1 _ (by omega) (by omega) (by omega)]
        have fx : ∀ x, x ≠ M → x ≠ M + 20 → x ≠ M + 21 → x ≠ M + 22 → H6 x = H1 x := fun x x0 x1 x2 x3 => by rw [d6 x x0, d4 x x3, d3 x x2, d2 x x1]
        refine h.beam (nsp := nsp + 1) (ld := fun j => if j = nsp then 0 else ld j) ?_ ?_ ?_ ?_ ?_ ?_ ?_
        · intro x x0 x1 x2 x3 x4 x5; rw [fx x x4 (by omega) (by omega) (by omega), c1 x x0 x1 (by omega)]
        · intro k hk; rw [fx X (by omega) (by omega) (by omega) (by omega), cX, up1_ne (by omega)]
        · intro k hk; rw [fx _ (by omega) (by omega) (by omega) (by omega), c21, up1_ne (by omega)]
        · intro x k h1 h2 h3
          rw [fx x (by omega) (by omega) (by omega) (by omega)]
          by_cases ex : x = X + 54 + 3 * nsp
          · subst ex; rw [c54, up1_ne (by omega), up1_ne (by omega), up1_ne (by omega)]
          · rw [c1 x (by omega) (by omega) ex]
        · rw [m6]; exact (FO.up (l := [0, 37]) rfl).same (FO.up rfl)
        · refine ⟨by rw [fx _ (by omega) (by omega) (by omega) (by omega), c21, up1_same]; rfl, by omega, v37, fun j hj => ?_, ?_⟩
          · by_cases ej : j = nsp
            · subst ej
              simp only [if_pos]
              unfold SpanOk
              rw [f20, f21, f22, fx (X + 54 + 3 * j) (by omega) (by omega) (by omega) (by omega), c54, up1_same, up1_same, up1_same]
              have z0 : up1 (up1 (up1 (H (X + 54 + 3 * j)) 0 a) 1 b) 2 0 0 = a := by rw [up1_ne (by decide), up1_ne (by decide), up1_same]
              have z1 : up1 (up1 (up1 (H (X + 54 + 3 * j)) 0 a) 1 b) 2 0 1 = b := by rw [up1_ne (by decide), up1_same]
              have z2 : up1 (up1 (up1 (H (X + 54 + 3 * j)) 0 a) 1 b) 2 0 2 = 0 := by rw [up1_same]
              rw [z0, z1, z2]
              exact ⟨rfl, ha, rfl, hb, rfl, rfl, by omega, fun k hk => absurd hk (by omega)⟩
            · simp only [if_neg ej]
              have := b4 j (by omega)
              have ee : ∀ x, x ≠ X → x ≠ X + 21 → x ≠ X + 54 + 3 * nsp → x ≠ M → x ≠ M + 20 → x ≠ M + 21 → x ≠ M + 22 → H6 x = H x := fun x x0 x1 x2 x3 x4 x5 x6 => by rw [fx x x3 x4 x5 x6, c1 x x0 x1 x2]
              unfold SpanOk at *
              rw [f20, f21, f22, up1_ne ej, up1_ne ej, up1_ne ej, ee (M + 23) (by omega) (by omega) (by omega) (by omega) (by omega) (by omega) (by omega), ee (M + 24) (by omega) (by omega) (by omega) (by omega) (by omega) (by omega) (by omega), ee (X + 54 + 3 * j) (by omega) (by omega) (by omega) (by omega) (by omega) (by omega) (by omega), ee (X + 54 + 3 * j + 1) (by omega) (by omega) (by omega) (by omega) (by omega) (by omega) (by omega), ee (X + 54 + 3 * j + 2) (by omega) (by omega) (by omega) (by omega) (by omega) (by omega) (by omega)]
              exact this
          · rw [fx (M + 25) (by omega) (by omega) (by omega) (by omega), c1 (M + 25) (by omega) (by omega) (by omega), fx (X + 23) (by omega) (by omega) (by omega) (by omega), c1 (X + 23) (by omega) (by omega) (by omega)]
            exact b5
        · rw [m6, up1_same, fx X (by omega) (by omega) (by omega) (by omega), cX, up1_same]
      · have rr := rej 3 H1 e1
        have c1 : ∀ x, x ≠ X → H1 x = H x := fun x hx => by rw [e1, upA_ne hx]
        refine eX12_span fun _ _ _ => bX12_span_0 (sp_X12_isSection ?_)
        rw [decide_eq_true hb]
        refine ⟨fun _ => ⟨fun g => absurd g (by omega), fun _ => ⟨fun _ => ?_, fun g => absurd ha.2 g⟩⟩, fun g => absurd g (by decide)⟩
        simp only [Int.toNat_natCast, Option.some.injEq, Prod.mk.injEq, true_and, and_true, exists_eq_left', hR.k0, c1 M (by omega), b3]
        exact ⟨by omega, fun g => absurd (by omega) g, fun _ => rr⟩
    · rw [decide_eq_false ha]
      refine ⟨fun g => absurd rfl g, fun _ => sp_X11_refuse hS.1 (fun H1 e1 => ?_)⟩
      have rr := rej 2 H1 e1
      refine eX12_span fun _ _ _ => bX12_span_0 (sp_X12_isSection ?_)
      rw [decide_eq_true hb]
      simp only [Int.toNat_natCast, Option.some.injEq, Prod.mk.injEq, true_and, and_true, exists_eq_left', hR.k0]
      exact ⟨fun _ => ⟨fun _ => ⟨by omega, rr⟩, fun g1 => ⟨fun g2 => absurd ⟨by omega, g2⟩ ha, fun _ => ⟨by omega, rr⟩⟩⟩, fun g => absurd g (by decide)⟩
  · rw [decide_eq_false hb]
    refine ⟨fun g => absurd rfl g, fun _ => sp_X11_refuse hS.1 (fun H1 e1 => ?_)⟩
    have rr := rej 1 H1 e1
    refine eX12_span fun _ _ _ => bX12_span_0 (sp_X12_isSection ?_)
    rw [decide_eq_false hb]
    simp only [Int.toNat_natCast, Option.some.injEq, Prod.mk.injEq, true_and, and_true, exists_eq_left', hR.k0]
    exact ⟨fun g => absurd rfl g, fun _ => ⟨by omega, rr⟩⟩
end S6
