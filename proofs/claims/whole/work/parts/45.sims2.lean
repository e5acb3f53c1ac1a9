/-! side by side: band, rod -/
theorem wAt_snoc {bw bf bt : Nat → Int} {nb : Nat} {w f t y : Int} : wAt (up1 bw nb w) (up1 bf nb f) (up1 bt nb t) (nb + 1) y = wAt bw bf bt nb y + (if f ≤ y ∧ y < t then w else 0) := by
  unfold wAt
  simp only [sumN, up1_same]
  congr 1
  exact sumN_congr (fun j hj => by rw [up1_ne (by omega), up1_ne (by omega), up1_ne (by omega)])
theorem areaF_snoc {bw bf bt : Nat → Int} {nb : Nat} {w f t : Int} : areaF (up1 bw nb w) (up1 bf nb f) (up1 bt nb t) (nb + 1) = areaF bw bf bt nb + w * (t - f) := by
  unfold areaF
  simp only [sumN, up1_same]
  congr 1
  exact sumN_congr (fun j hj => by rw [up1_ne (by omega), up1_ne (by omega), up1_ne (by omega)])
theorem rf_band {d : Nat} {K : Shp} {H : Mem} {M i nb f t : Nat} {q : Int → Mem → Prop} {w : Int} (hk : RefS K M) (hp : RefP (H M) M) (hi : i < 4) (hw : 1 ≤ w ∧ w ≤ 100) (hf : f < t) (ht : t ≤ 100) (hn : H (M + 8) i = (nb : Int)) (h8 : nb < 8) (har : 0 ≤ H (M + 10) i ∧ H (M + 10) i ≤ 80000) (hwd : ∀ y, y < 100 → 0 ≤ H (M + 11) (100 * i + y) ∧ H (M + 11) (100 * i + y) ≤ 800)
    (hq : ∀ H', FC M [0, 8, 10, 11] H H' → FO [0] (H M) (H' M) → H' M 0 = 0 → H' (M + 8) = up1 (H (M + 8)) i ((nb : Int) + 1) → H' (M + 10) = up1 (H (M + 10)) i (H (M + 10) i + w * ((t : Int) - (f : Int))) → (∀ y, y < 100 → H' (M + 11) (100 * i + y) = H (M + 11) (100 * i + y) + (if f ≤ y ∧ y < t then w else 0)) → (∀ j, j < 100 * i ∨ 100 * i + 100 ≤ j → H' (M + 11) j = H (M + 11) j) → q (nb : Int) H') : Ci mX12_band (d + 1) [(2, (M : Int)), (0, (i : Int)), (0, w), (0, (f : Int)), (0, (t : Int))] K H q := by
  refine eX12_band fun _ _ _ _ _ => bX12_band_0 (sp_X12_isSection ?_)
  rw [decide_eq_true (show 0 ≤ (i : Int) ∧ (i : Int) ≤ 3 by omega)]
  refine ⟨fun _ => ⟨fun g => absurd g (by omega), fun _ => ⟨fun g => absurd hw.2 g, fun _ => ⟨fun g => absurd g (by omega), fun _ => ⟨fun g => absurd (by omega) g, fun _ => ⟨fun _ => ?_, fun g => absurd (by omega) g⟩⟩⟩⟩⟩, fun g => absurd g (by decide)⟩
  simp only [Int.toNat_natCast, Option.some.injEq, Prod.mk.injEq, true_and, and_true, exists_eq_left', hk.k0, hp.p12, hk.k8, hn]
  refine ⟨by omega, by omega, by omega, by omega, fun _ => ?_, fun g => absurd g (by omega)⟩
  have loop : ∀ (n y : Nat), y + n = t → f ≤ y → ∀ G : Mem, (∀ x, x ≠ M + 11 → G x = H x) → (∀ y', y' < 100 → G (M + 11) (100 * i + y') = H (M + 11) (100 * i + y') + (if f ≤ y' ∧ y' < y then w else 0)) → (∀ j, j < 100 * i ∨ 100 * i + 100 ≤ j → G (M + 11) j = H (M + 11) j) → FX12_band_67 d K G q (M : Int) (i : Int) w (f : Int) (t : Int) (y : Int) := by
    intro n
    induction n with
    | zero =>
      intro y hy hfy G g1 g2 g3
      have ey : y = t := by omega
      subst ey
      have gM := g1 M (by omega)
      have g8 := g1 (M + 8) (by omega)
      have g10 := g1 (M + 10) (by omega)
      have mb := mul_bd (show 0 ≤ w by omega) hw.2 (show 0 ≤ (y : Int) - (f : Int) by omega) (show (y : Int) - (f : Int) ≤ 100 by omega)
      refine bX12_band_67 ⟨fun _ => ?_, fun g => absurd g (by omega)⟩
      simp only [Int.toNat_natCast, Option.some.injEq, Prod.mk.injEq, true_and, and_true, exists_eq_left', hk.k0, gM, hp.p14, hk.k10, g10]
      refine ⟨by omega, by omega, by omega, by omega, ⟨by omega, by omega⟩, ⟨by omega, by omega⟩, ⟨by omega, by omega⟩, fun H1 e1 => ?_⟩
      have c1 : ∀ x, x ≠ M + 10 → H1 x = G x := fun x hx => by rw [e1, upA_ne hx]
      have m1 : H1 M = H M := (c1 M (by omega)).trans gM
      have n1 : H1 (M + 8) = H (M + 8) := (c1 _ (by omega)).trans g8
      simp only [Int.toNat_natCast, Option.some.injEq, Prod.mk.injEq, true_and, and_true, exists_eq_left', m1, hp.p12, hk.k8, n1, hn]
      refine ⟨by omega, by omega, ⟨by omega, by omega⟩, fun H2 e2 H3 e3 => ?_⟩
      have c2 : ∀ x, x ≠ M + 8 → H2 x = H1 x := fun x hx => by rw [e2, upA_ne hx]
      have c3 : ∀ x, x ≠ M → H3 x = H2 x := fun x hx => by rw [e3, upA_ne hx]
      have m3 : H3 M = up1 (H M) 0 0 := by rw [e3, upA_same, c2 M (by omega), m1]
      have n3 : H3 (M + 8) = up1 (H (M + 8)) i ((nb : Int) + 1) := by rw [c3 _ (by omega), e2, upA_same]
      have p12 : H3 M 12 = ((M + 8 : Nat) : Int) := by rw [m3, up1_ne (by decide)]; exact hp.p12
      simp only [Int.toNat_natCast, Option.some.injEq, Prod.mk.injEq, true_and, and_true, exists_eq_left', p12, hk.k8, n3, up1_same]
      refine ⟨by omega, by omega, ⟨by omega, by omega⟩, ?_⟩
      rw [show (nb : Int) + 1 - 1 = (nb : Int) by omega]
      have k3 : ∀ x, x ≠ M → x ≠ M + 8 → x ≠ M + 10 → H3 x = G x := fun x x0 x8 x10 => by rw [c3 x x0, c2 x x8, c1 x x10]
      refine hq H3 ?_ ?_ ?_ n3 ?_ ?_ ?_
      · intro x hx
        have z0 := hx 0 rfl
        have z8 := hx 8 rfl
        have z10 := hx 10 rfl
        have z11 := hx 11 rfl
        rw [k3 x (by omega) z8 z10, g1 x z11]
      · rw [m3]; exact FO.up rfl
      · rw [m3, up1_same]
      · rw [c3 _ (by omega), c2 _ (by omega), e1, upA_same]
      · intro y' hy'; rw [k3 _ (by omega) (by omega) (by omega)]; exact g2 y' hy'
      · intro j hj; rw [k3 _ (by omega) (by omega) (by omega)]; exact g3 j hj
    | succ n ih =>
      intro y hy hfy G g1 g2 g3
      have gM := g1 M (by omega)
      have e100 : (100 * (i : Int) + (y : Int)).toNat = 100 * i + y := by omega
      have gy := g2 y (by omega)
      rw [if_neg (by omega), Int.add_zero] at gy
      have wy := hwd y (by omega)
      refine bX12_band_67 ⟨fun g => absurd (by omega) g, fun _ => ?_⟩
      simp only [Int.toNat_natCast, Option.some.injEq, Prod.mk.injEq, true_and, and_true, exists_eq_left', hk.k0, gM, hp.p15, hk.k11, e100, gy]
      refine ⟨by omega, ⟨by omega, by omega⟩, ⟨by omega, by omega⟩, by omega, by omega, by omega, ⟨by omega, by omega⟩, fun H' e' => ⟨⟨by omega, by omega⟩, ?_⟩⟩
      refine ih (y + 1) (by omega) (by omega) H' (fun x hx => by rw [e', upA_ne hx, g1 x hx]) (fun y' hy' => ?_) (fun j hj => ?_)
      · rw [e', upA_same]
        by_cases ey : y' = y
        · subst ey; rw [up1_same, if_pos (by omega)]
        · rw [up1_ne (by omega), g2 y' hy']
          by_cases cc : f ≤ y' ∧ y' < y
          · rw [if_pos cc, if_pos (by omega)]
          · rw [if_neg cc, if_neg (by omega)]
      · rw [e', upA_same, up1_ne (by omega)]; exact g3 j hj
  exact loop (t - f) f (by omega) (by omega) H (fun _ _ => rfl) (fun y' _ => by rw [if_neg (by omega), Int.add_zero]) (fun _ _ => rfl)
set_option maxHeartbeats 2000000 in
theorem sim_band {d : Nat} {K : Shp} {H : Mem} {X M : Nat} {q : Int → Int → Mem → Prop} {a b c e : Int} (h : Inv K H X M) (hq : ∀ r H', Inv K H' X M → q r r H') : Ci mX11_band (d + 12) [(2, (X : Int)), (0, a), (0, b), (0, c), (0, e)] K H (fun r H1 => Ci mX12_band (d + 12) [(2, (M : Int)), (0, a), (0, b), (0, c), (0, e)] K H1 (fun r' H2 => q r r' H2)) := by
  have hI := h
  obtain ⟨hM, hS, hR, hScr, hC, hRP, ⟨nb, nr, np, nz, nsp, ld, hH⟩, ho, hst⟩ := hI
  have rej : ∀ w : Int, ∀ H1, H1 = upA H X (up1 (H X) 0 w) → Ci mX12_refuse (d + 11) [(2, (M : Int)), (0, w)] K H1 (fun x H2 => q (-1) x H2) := fun w H1 e1 => sp_X12_refuse hR.k0 (fun H2 e2 => hq _ _ (h.stat e1 e2))
  refine eX11_band fun _ _ _ _ _ => bX11_band_0 ?_
  simp only [Int.toNat_natCast, Option.some.injEq, Prod.mk.injEq, true_and, and_true, exists_eq_left', hS.1]
  refine ⟨by omega, sp_X11_isSection ?_⟩
  by_cases ha : 0 ≤ a ∧ a ≤ 3
  · rw [decide_eq_true ha]
    have rf2 : ¬ ((1 ≤ b ∧ b ≤ 100) ∧ 0 ≤ c ∧ e ≤ 100 ∧ c < e) → Ci mX11_refuse (d + 11) [(2, (X : Int)), (0, 2)] K H (fun x H1 => Ci mX12_band (d + 12) [(2, (M : Int)), (0, a), (0, b), (0, c), (0, e)] K H1 (fun r' H2 => q x r' H2)) := by
      intro hne
      refine sp_X11_refuse hS.1 (fun H1 e1 => ?_)
      have rr := rej 2 H1 e1
      refine eX12_band fun _ _ _ _ _ => bX12_band_0 (sp_X12_isSection ?_)
      rw [decide_eq_true ha]
      simp only [Int.toNat_natCast, Option.some.injEq, Prod.mk.injEq, true_and, and_true, exists_eq_left', hR.k0]
      exact ⟨fun _ => ⟨fun g => ⟨by omega, rr⟩, fun g1 => ⟨fun g => ⟨by omega, rr⟩, fun g2 => ⟨fun g => ⟨by omega, rr⟩, fun g3 => ⟨fun g => ⟨by omega, rr⟩, fun g4 => ⟨fun g5 => absurd ⟨⟨by omega, g2⟩, by omega, g4, g5⟩ hne, fun g => ⟨by omega, rr⟩⟩⟩⟩⟩⟩, fun g => absurd g (by decide)⟩
    refine ⟨fun _ => sp_X11_isFromTo ?_, fun g => absurd g (by decide)⟩
    by_cases hb : 1 ≤ b ∧ b ≤ 100
    · rw [decide_eq_true hb]
      refine ⟨fun g => absurd g (by decide), fun _ => ⟨fun g => rf2 (fun z => by omega), fun g1 => ⟨fun g => rf2 (fun z => g z.2.2.1), fun g2 => ⟨fun g3 => ?_, fun g => rf2 (fun z => g z.2.2.2)⟩⟩⟩⟩
      obtain ⟨i, rfl⟩ : ∃ i : Nat, a = (i : Int) := ⟨a.toNat, by omega⟩
      obtain ⟨f, rfl⟩ : ∃ f : Nat, c = (f : Int) := ⟨c.toNat, by omega⟩
      obtain ⟨t, rfl⟩ : ∃ t : Nat, e = (t : Int) := ⟨e.toNat, by omega⟩
      have hi : i < 4 := by omega
      obtain ⟨⟨sI, sR, sS⟩, sB⟩ := hH.1 i hi
      have sI' := sI
      obtain ⟨hk, hp, hn, hr, hf, hz, hB, hRo, hS5, h2, hE⟩ := sI'
      have hb8 := hB.1
      simp only [Int.toNat_natCast, Option.some.injEq, Prod.mk.injEq, true_and, and_true, exists_eq_left', hC.1.2.1, hS.2.2.2.1, hC.2.2.1 i hi, sI.1.1, hn]
      refine ⟨by omega, by omega, by omega, by omega, fun hlt => ?_, fun hge => ?_⟩
      · refine sp_X4_addBand sI (by omega) ⟨hb.1, hb.2, by omega, by omega, by omega⟩ ?_
        intro G g1' g2' g3' g4' g5' g6' g7'
        refine sp_X11_give hS.1 (fun H1 e1 => ?_)
        have c1 : ∀ x, x ≠ X → H1 x = G x := fun x hx => by rw [e1, upA_ne hx]
        have gl : ∀ x, x < X + 83 + 10 * i ∨ X + 83 + 10 * i + 9 < x → G x = H x := fun x hx => g1' x (by omega) (by omega) (by omega) (by omega) (by omega) (by omega) (by omega)
        have cX : H1 X = up1 (H X) 0 0 := by rw [e1, upA_same, gl X (by omega)]
        have cm : ∀ x, M ≤ x → H1 x = H x := fun x hx => by rw [c1 x (by omega), gl x (by omega)]
        have cM := cm M (by omega)
        refine rf_band hR (by rw [cM]; exact hRP) hi hb (by omega) (by omega) (nb := nb i) (by rw [cm _ (by omega)]; exact sR.2.2.1) (by omega) ?_ ?_ ?_
        · rw [cm _ (by omega), sR.2.2.2.2.1]
          have := area_bd hB (nb i) (Nat.le_refl _)
          omega
        · intro y hy
          rw [cm _ (by omega), sR.2.2.2.2.2.1 y hy]
          have := wAt_bd hB (y : Int) (nb i) (Nat.le_refl _)
          omega
        · intro H2 f1 f2 f3 f4 f5 f6 f7
          rw [cm _ (by omega)] at f4
          rw [cm _ (by omega)] at f5
          have lo : ∀ x, x < M → H2 x = H1 x := fun x hx => f1.lt hx
          refine hq _ _ (h.sec hi ?_ ?_ ?_ ?_ ?_ ?_ ?_ ?_ ?_)
          · intro x k hk' n1 n2
            by_cases xM : x = M
            · subst xM
              rw [f2 k (by unfold keepP at hk'; simp; omega), cM]
            · by_cases xX : x = X
              · subst xX
                rw [lo _ (by omega), cX, up1_ne (by unfold keepP at hk'; omega)]
              · rw [f1.ne (x := x) (fun j hj => by simp at hj; omega), c1 x xX, gl x (by omega)]
          · intro u j u1 u2 hj hne
            have hu : u = 6 ∨ u = 7 ∨ u = 8 ∨ u = 9 ∨ u = 10 := by omega
            rcases hu with rfl | rfl | rfl | rfl | rfl
            · rw [f1.at 6 rfl, cm _ (by omega)]
            · rw [f1.at 7 rfl, cm _ (by omega)]
            · rw [f4, up1_ne hne]
            · rw [f1.at 9 rfl, cm _ (by omega)]
            · rw [f5, up1_ne hne]
          · intro j y hne hy
            rw [f7 _ (by omega), cm _ (by omega)]
          · intro j r hne hr
            rw [f1.at 12 rfl, cm _ (by omega)]
          · intro j r hne hr
            rw [f1.at 13 rfl, cm _ (by omega)]
          · intro nb2 nr2 np2 nz2 nsp2 ld2 hH2
            have sg : ∀ j, j < 10 → H2 (X + 83 + 10 * i + j) = G (X + 83 + 10 * i + j) := fun j hj => by rw [lo _ (by omega), c1 _ (by omega)]
            have s0 := sg 0 (by omega)
            rw [Nat.add_zero] at s0
            have s4 : H2 (X + 83 + 10 * i + 4) = H (X + 83 + 10 * i + 4) := by rw [sg 4 (by omega), g1' _ (by omega) (by omega) (by omega) (by omega) (by omega) (by omega) (by omega)]
            have s5 : H2 (X + 83 + 10 * i + 5) = H (X + 83 + 10 * i + 5) := by rw [sg 5 (by omega), g1' _ (by omega) (by omega) (by omega) (by omega) (by omega) (by omega) (by omega)]
            refine ⟨nb i + 1, nr i, ⟨g2'.keepc sg, ⟨?_, ?_, ?_, ?_, ?_, ?_, ?_⟩, ?_⟩, Or.inl (by rw [s0]; exact g4')⟩
            · rw [f1.at 6 rfl, cm _ (by omega), s0, g3' 0 (by decide) (by decide) (by decide) (by decide)]; exact sR.1
            · rw [f1.at 7 rfl, cm _ (by omega), s0, g3' 1 (by decide) (by decide) (by decide) (by decide)]; exact sR.2.1
            · rw [f4, up1_same]; rfl
            · rw [f1.at 9 rfl, cm _ (by omega)]; exact sR.2.2.2.1
            · rw [f5, up1_same, sg 1 (by omega), sg 2 (by omega), sg 3 (by omega), g5', g6', g7', areaF_snoc, sR.2.2.2.2.1]
            · intro y hy
              rw [f6 y hy, cm _ (by omega), sg 1 (by omega), sg 2 (by omega), sg 3 (by omega), g5', g6', g7', wAt_snoc, sR.2.2.2.2.2.1 y hy]
              congr 1
              by_cases cc : f ≤ y ∧ y < t
              · rw [if_pos cc, if_pos (by omega)]
              · rw [if_neg cc, if_neg (by omega)]
            · intro r hr
              rw [f1.at 12 rfl, cm _ (by omega), s4]; exact sR.2.2.2.2.2.2 r hr
            · intro r hr
              rw [f1.at 13 rfl, cm _ (by omega), s5]; exact sS r hr
          · exact hScr.cells (fun x hx => by rw [lo x (by omega), c1 x (by omega), gl x (by omega)])
          · refine ho.keep ?_ ?_ ?_ ?_
            · rw [lo _ (by omega), c1 _ (by omega), gl _ (by omega)]
            · rw [lo _ (by omega), c1 _ (by omega), gl _ (by omega)]
            · rw [f1.at 5 rfl, cm _ (by omega)]
            · rw [f2 9 rfl, cM]
          · rw [f3, lo X (by omega), cX, up1_same]
      · refine sp_X11_refuse hS.1 (fun H1 e1 => ?_)
        have rr := rej 3 H1 e1
        have c1 : ∀ x, x ≠ X → H1 x = H x := fun x hx => by rw [e1, upA_ne hx]
        refine eX12_band fun _ _ _ _ _ => bX12_band_0 (sp_X12_isSection ?_)
        rw [decide_eq_true ha]
        refine ⟨fun _ => ⟨fun g => absurd g (by omega), fun _ => ⟨fun g => absurd hb.2 g, fun _ => ⟨fun g => absurd g (by omega), fun _ => ⟨fun g => absurd g2 g, fun _ => ⟨fun _ => ?_, fun g => absurd g3 g⟩⟩⟩⟩⟩, fun g => absurd g (by decide)⟩
        simp only [Int.toNat_natCast, Option.some.injEq, Prod.mk.injEq, true_and, and_true, exists_eq_left', hR.k0, c1 M (by omega), hRP.p12, hR.k8, c1 (M + 8) (by omega), sR.2.2.1]
        exact ⟨by omega, by omega, by omega, by omega, fun g => absurd (by omega) g, fun _ => rr⟩
    · rw [decide_eq_false hb]
      exact ⟨fun _ => rf2 (fun z => hb z.1), fun g => absurd rfl g⟩
  · rw [decide_eq_false ha]
    refine ⟨fun g => absurd rfl g, fun _ => sp_X11_refuse hS.1 (fun H1 e1 => ?_)⟩
    have rr := rej 1 H1 e1
    refine eX12_band fun _ _ _ _ _ => bX12_band_0 (sp_X12_isSection ?_)
    rw [decide_eq_false ha]
    simp only [Int.toNat_natCast, Option.some.injEq, Prod.mk.injEq, true_and, and_true, exists_eq_left', hR.k0]
    exact ⟨fun g => absurd rfl g, fun _ => ⟨by omega, rr⟩⟩
set_option maxHeartbeats 2000000 in
theorem rf_rod {d : Nat} {K : Shp} {H : Mem} {M i nr : Nat} {q : Int → Mem → Prop} {b c : Int} (hk : RefS K M) (hp : RefP (H M) M) (hi : i < 4) (hb : 0 ≤ b ∧ b ≤ 100) (hc : 0 ≤ c ∧ c ≤ 200) (hn : H (M + 9) i = (nr : Int)) (h6 : nr < 6)
    (hq : ∀ H', FC M [0, 9, 12, 13] H H' → FO [0] (H M) (H' M) → H' M 0 = 0 → H' (M + 9) = up1 (H (M + 9)) i ((nr : Int) + 1) → H' (M + 12) = up1 (H (M + 12)) (6 * i + nr) b → H' (M + 13) = up1 (H (M + 13)) (6 * i + nr) c → q (nr : Int) H') : Ci mX12_rod (d + 1) [(2, (M : Int)), (0, (i : Int)), (0, b), (0, c)] K H q := by
  have e6 : (6 * (i : Int) + (nr : Int)).toNat = 6 * i + nr := by omega
  refine eX12_rod fun _ _ _ _ => bX12_rod_0 (sp_X12_isSection ?_)
  rw [decide_eq_true (show 0 ≤ (i : Int) ∧ (i : Int) ≤ 3 by omega)]
  refine ⟨fun _ => ⟨fun g => absurd g (by omega), fun _ => ⟨fun g => absurd hb.2 g, fun _ => ⟨fun g => absurd g (by omega), fun _ => ⟨fun _ => ?_, fun g => absurd hc.2 g⟩⟩⟩⟩, fun g => absurd g (by decide)⟩
  simp only [Int.toNat_natCast, Option.some.injEq, Prod.mk.injEq, true_and, and_true, exists_eq_left', hk.k0, hp.p13, hk.k9, hn, hp.p16, hk.k12, e6]
  refine ⟨by omega, by omega, by omega, by omega, fun _ => ⟨⟨by omega, by omega⟩, ⟨by omega, by omega⟩, by omega, by omega, by omega, fun H1 e1 => ?_⟩, fun g => absurd g (by omega)⟩
  have c1 : ∀ x, x ≠ M + 12 → H1 x = H x := fun x hx => by rw [e1, upA_ne hx]
  simp only [Int.toNat_natCast, Option.some.injEq, Prod.mk.injEq, true_and, and_true, exists_eq_left', c1 M (by omega), hp.p13, hk.k9, c1 (M + 9) (by omega), hn, hp.p17, hk.k13, e6]
  refine ⟨by omega, by omega, ⟨by omega, by omega⟩, by omega, by omega, by omega, fun H2 e2 => ?_⟩
  have c2 : ∀ x, x ≠ M + 13 → H2 x = H1 x := fun x hx => by rw [e2, upA_ne hx]
  have m2 : H2 M = H M := (c2 M (by omega)).trans (c1 M (by omega))
  have n2 : H2 (M + 9) = H (M + 9) := (c2 _ (by omega)).trans (c1 _ (by omega))
  simp only [Int.toNat_natCast, Option.some.injEq, Prod.mk.injEq, true_and, and_true, exists_eq_left', m2, hp.p13, hk.k9, n2, hn]
  refine ⟨by omega, by omega, ⟨by omega, by omega⟩, fun H3 e3 H4 e4 => ?_⟩
  have c3 : ∀ x, x ≠ M + 9 → H3 x = H2 x := fun x hx => by rw [e3, upA_ne hx]
  have c4 : ∀ x, x ≠ M → H4 x = H3 x := fun x hx => by rw [e4, upA_ne hx]
  have m4 : H4 M = up1 (H M) 0 0 := by rw [e4, upA_same, c3 M (by omega), m2]
  have n4 : H4 (M + 9) = up1 (H (M + 9)) i ((nr : Int) + 1) := by rw [c4 _ (by omega), e3, upA_same]
  have p13 : H4 M 13 = ((M + 9 : Nat) : Int) := by rw [m4, up1_ne (by decide)]; exact hp.p13
  simp only [Int.toNat_natCast, Option.some.injEq, Prod.mk.injEq, true_and, and_true, exists_eq_left', p13, hk.k9, n4, up1_same]
  refine ⟨by omega, by omega, ⟨by omega, by omega⟩, ?_⟩
  rw [show (nr : Int) + 1 - 1 = (nr : Int) by omega]
  refine hq H4 ?_ ?_ ?_ n4 ?_ ?_
  · intro x hx
    have z0 := hx 0 rfl
    have z9 := hx 9 rfl
    have z12 := hx 12 rfl
    have z13 := hx 13 rfl
    rw [c4 x (by omega), c3 x z9, c2 x z13, c1 x z12]
  · rw [m4]; exact FO.up rfl
  · rw [m4, up1_same]
  · rw [c4 _ (by omega), c3 _ (by omega), c2 _ (by omega), e1, upA_same]
  · rw [c4 _ (by omega), c3 _ (by omega), e2, upA_same, c1 _ (by omega)]
set_option maxHeartbeats 2000000 in
theorem sim_rod {d : Nat} {K : Shp} {H : Mem} {X M : Nat} {q : Int → Int → Mem → Prop} {a b c : Int} (h : Inv K H X M) (hq : ∀ r H', Inv K H' X M → q r r H') : Ci mX11_rod (d + 12) [(2, (X : Int)), (0, a), (0, b), (0, c)] K H (fun r H1 => Ci mX12_rod (d + 12) [(2, (M : Int)), (0, a), (0, b), (0, c)] K H1 (fun r' H2 => q r r' H2)) := by
  have hI := h
  obtain ⟨hM, hS, hR, hScr, hC, hRP, ⟨nb, nr, np, nz, nsp, ld, hH⟩, ho, hst⟩ := hI
  have rej : ∀ w : Int, ∀ H1, H1 = upA H X (up1 (H X) 0 w) → Ci mX12_refuse (d + 11) [(2, (M : Int)), (0, w)] K H1 (fun x H2 => q (-1) x H2) := fun w H1 e1 => sp_X12_refuse hR.k0 (fun H2 e2 => hq _ _ (h.stat e1 e2))
  refine eX11_rod fun _ _ _ _ => bX11_rod_0 ?_
  simp only [Int.toNat_natCast, Option.some.injEq, Prod.mk.injEq, true_and, and_true, exists_eq_left', hS.1]
  refine ⟨by omega, sp_X11_isSection ?_⟩
  by_cases ha : 0 ≤ a ∧ a ≤ 3
  · rw [decide_eq_true ha]
    have rf2 : ¬ ((0 ≤ b ∧ b ≤ 100) ∧ 0 ≤ c ∧ c ≤ 200) → Ci mX11_refuse (d + 11) [(2, (X : Int)), (0, 2)] K H (fun x H1 => Ci mX12_rod (d + 12) [(2, (M : Int)), (0, a), (0, b), (0, c)] K H1 (fun r' H2 => q x r' H2)) := by
      intro hne
      refine sp_X11_refuse hS.1 (fun H1 e1 => ?_)
      have rr := rej 2 H1 e1
      refine eX12_rod fun _ _ _ _ => bX12_rod_0 (sp_X12_isSection ?_)
      rw [decide_eq_true ha]
      simp only [Int.toNat_natCast, Option.some.injEq, Prod.mk.injEq, true_and, and_true, exists_eq_left', hR.k0]
      exact ⟨fun _ => ⟨fun g => ⟨by omega, rr⟩, fun g1 => ⟨fun g => ⟨by omega, rr⟩, fun g2 => ⟨fun g => ⟨by omega, rr⟩, fun g3 => ⟨fun g5 => absurd ⟨⟨by omega, g2⟩, by omega, g5⟩ hne, fun g => ⟨by omega, rr⟩⟩⟩⟩⟩, fun g => absurd g (by decide)⟩
    refine ⟨fun _ => sp_X11_isFromTo ?_, fun g => absurd g (by decide)⟩
    by_cases hb : 0 ≤ b ∧ b ≤ 100
    · rw [decide_eq_true hb]
      refine ⟨fun g => absurd g (by decide), fun _ => sp_X11_isFromTo ?_⟩
      by_cases hc : 0 ≤ c ∧ c ≤ 200
      · rw [decide_eq_true hc]
        refine ⟨fun _ => ?_, fun g => absurd g (by decide)⟩
        obtain ⟨i, rfl⟩ : ∃ i : Nat, a = (i : Int) := ⟨a.toNat, by omega⟩
        have hi : i < 4 := by omega
        obtain ⟨⟨sI, sR, sS⟩, sB⟩ := hH.1 i hi
        have sI' := sI
        obtain ⟨hk, hp, hn, hr, hf, hz, hB, hRo, hS5, h2, hE⟩ := sI'
        have hr6 := hRo.1
        simp only [Int.toNat_natCast, Option.some.injEq, Prod.mk.injEq, true_and, and_true, exists_eq_left', hC.1.2.1, hS.2.2.2.1, hC.2.2.1 i hi, sI.1.1, hr]
        refine ⟨by omega, by omega, by omega, by omega, fun hlt => ?_, fun hge => ?_⟩
        · refine sp_X4_addRod sI (by omega) hb hc ?_
          intro G g1' g2' g3' g4' g5' g6'
          refine sp_X11_give hS.1 (fun H1 e1 => ?_)
          have c1 : ∀ x, x ≠ X → H1 x = G x := fun x hx => by rw [e1, upA_ne hx]
          have gl : ∀ x, x < X + 83 + 10 * i ∨ X + 83 + 10 * i + 9 < x → G x = H x := fun x hx => g1' x (by omega) (by omega) (by omega) (by omega) (by omega) (by omega)
          have cX : H1 X = up1 (H X) 0 0 := by rw [e1, upA_same, gl X (by omega)]
          have cm : ∀ x, M ≤ x → H1 x = H x := fun x hx => by rw [c1 x (by omega), gl x (by omega)]
          have cM := cm M (by omega)
          refine rf_rod hR (by rw [cM]; exact hRP) hi hb hc (nr := nr i) (by rw [cm _ (by omega)]; exact sR.2.2.2.1) (by omega) ?_
          intro H2 f1 f2 f3 f4 f5 f6
          rw [cm _ (by omega)] at f4
          rw [cm _ (by omega)] at f5
          rw [cm _ (by omega)] at f6
          have lo : ∀ x, x < M → H2 x = H1 x := fun x hx => f1.lt hx
          refine hq _ _ (h.sec hi ?_ ?_ ?_ ?_ ?_ ?_ ?_ ?_ ?_)
          · intro x k hk' n1 n2
            by_cases xM : x = M
            · subst xM
              rw [f2 k (by unfold keepP at hk'; simp; omega), cM]
            · by_cases xX : x = X
              · subst xX
                rw [lo _ (by omega), cX, up1_ne (by unfold keepP at hk'; omega)]
              · rw [f1.ne (x := x) (fun j hj => by simp at hj; omega), c1 x xX, gl x (by omega)]
          · intro u j u1 u2 hj hne
            have hu : u = 6 ∨ u = 7 ∨ u = 8 ∨ u = 9 ∨ u = 10 := by omega
            rcases hu with rfl | rfl | rfl | rfl | rfl
            · rw [f1.at 6 rfl, cm _ (by omega)]
            · rw [f1.at 7 rfl, cm _ (by omega)]
            · rw [f1.at 8 rfl, cm _ (by omega)]
            · rw [f4, up1_ne hne]
            · rw [f1.at 10 rfl, cm _ (by omega)]
          · intro j y hne hy
            rw [f1.at 11 rfl, cm _ (by omega)]
          · intro j r hne hr
            rw [f5, up1_ne (by omega)]
          · intro j r hne hr
            rw [f6, up1_ne (by omega)]
          · intro nb2 nr2 np2 nz2 nsp2 ld2 hH2
            have sg : ∀ j, j < 10 → H2 (X + 83 + 10 * i + j) = G (X + 83 + 10 * i + j) := fun j hj => by rw [lo _ (by omega), c1 _ (by omega)]
            have s0 := sg 0 (by omega)
            rw [Nat.add_zero] at s0
            have so : ∀ j, 1 ≤ j → j ≤ 3 → H2 (X + 83 + 10 * i + j) = H (X + 83 + 10 * i + j) := fun j j1 j2 => by rw [sg j (by omega), g1' _ (by omega) (by omega) (by omega) (by omega) (by omega) (by omega)]
            refine ⟨nb i, nr i + 1, ⟨g2'.keepc sg, ⟨?_, ?_, ?_, ?_, ?_, ?_, ?_⟩, ?_⟩, Or.inl (by rw [s0]; exact g4')⟩
            · rw [f1.at 6 rfl, cm _ (by omega), s0, g3' 0 (by decide) (by decide) (by decide) (by decide)]; exact sR.1
            · rw [f1.at 7 rfl, cm _ (by omega), s0, g3' 1 (by decide) (by decide) (by decide) (by decide)]; exact sR.2.1
            · rw [f1.at 8 rfl, cm _ (by omega)]; exact sR.2.2.1
            · rw [f4, up1_same]; rfl
            · rw [f1.at 10 rfl, cm _ (by omega), so 1 (by omega) (by omega), so 2 (by omega) (by omega), so 3 (by omega) (by omega)]; exact sR.2.2.2.2.1
            · intro y hy
              rw [f1.at 11 rfl, cm _ (by omega), so 1 (by omega) (by omega), so 2 (by omega) (by omega), so 3 (by omega) (by omega)]; exact sR.2.2.2.2.2.1 y hy
            · intro r hr
              rw [f5, sg 4 (by omega), g5']
              by_cases er : r = nr i
              · subst er; rw [up1_same, up1_same]
              · rw [up1_ne (by omega), up1_ne er]; exact sR.2.2.2.2.2.2 r (by omega)
            · intro r hr
              rw [f6, sg 5 (by omega), g6']
              by_cases er : r = nr i
              · subst er; rw [up1_same, up1_same]
              · rw [up1_ne (by omega), up1_ne er]; exact sS r (by omega)
          · exact hScr.cells (fun x hx => by rw [lo x (by omega), c1 x (by omega), gl x (by omega)])
          · refine ho.keep ?_ ?_ ?_ ?_
            · rw [lo _ (by omega), c1 _ (by omega), gl _ (by omega)]
            · rw [lo _ (by omega), c1 _ (by omega), gl _ (by omega)]
            · rw [f1.at 5 rfl, cm _ (by omega)]
            · rw [f2 9 rfl, cM]
          · rw [f3, lo X (by omega), cX, up1_same]
        · refine sp_X11_refuse hS.1 (fun H1 e1 => ?_)
          have rr := rej 3 H1 e1
          have c1 : ∀ x, x ≠ X → H1 x = H x := fun x hx => by rw [e1, upA_ne hx]
          refine eX12_rod fun _ _ _ _ => bX12_rod_0 (sp_X12_isSection ?_)
          rw [decide_eq_true ha]
          refine ⟨fun _ => ⟨fun g => absurd g (by omega), fun _ => ⟨fun g => absurd hb.2 g, fun _ => ⟨fun g => absurd g (by omega), fun _ => ⟨fun _ => ?_, fun g => absurd hc.2 g⟩⟩⟩⟩, fun g => absurd g (by decide)⟩
          simp only [Int.toNat_natCast, Option.some.injEq, Prod.mk.injEq, true_and, and_true, exists_eq_left', hR.k0, c1 M (by omega), hRP.p13, hR.k9, c1 (M + 9) (by omega), sR.2.2.2.1]
          exact ⟨by omega, by omega, by omega, by omega, fun g => absurd (by omega) g, fun _ => rr⟩
      · rw [decide_eq_false hc]
        exact ⟨fun g => absurd rfl g, fun _ => rf2 (fun z => hc z.2)⟩
    · rw [decide_eq_false hb]
      exact ⟨fun _ => rf2 (fun z => hb z.1), fun g => absurd rfl g⟩
  · rw [decide_eq_false ha]
    refine ⟨fun g => absurd rfl g, fun _ => sp_X11_refuse hS.1 (fun H1 e1 => ?_)⟩
    have rr := rej 1 H1 e1
    refine eX12_rod fun _ _ _ _ => bX12_rod_0 (sp_X12_isSection ?_)
    rw [decide_eq_false ha]
    simp only [Int.toNat_natCast, Option.some.injEq, Prod.mk.injEq, true_and, and_true, exists_eq_left', hR.k0]
    exact ⟨fun g => absurd rfl g, fun _ => ⟨by omega, rr⟩⟩
