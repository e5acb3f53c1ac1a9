/-! side by side: bend, cut -/
section S8
variable {d : Nat} {K : Shp} {H : Mem} {X M : Nat} {q : Int → Int → Mem → Prop} {a b c : Int}
theorem sp_X11_walkTo1 {qi : Int → Mem → Prop} (hX : K[X]? = some (11, 8)) (ha : ¬ (0 ≤ a ∧ a ≤ 3)) (hq : qi 1 H) : Ci mX11_walkTo (d + 3) [(2, (X : Int)), (0, a), (0, b), (0, c)] K H qi := by
  refine eX11_walkTo fun _ _ _ _ => bX11_walkTo_0 ?_
  simp only [Int.toNat_natCast, Option.some.injEq, Prod.mk.injEq, true_and, and_true, exists_eq_left', hX]
  refine ⟨by omega, sp_X11_isSection ?_⟩
  rw [decide_eq_false ha]
  exact ⟨fun g => absurd rfl g, fun _ => hq⟩
theorem sp_X11_walkTo2 {qi : Int → Mem → Prop} (hX : K[X]? = some (11, 8)) (ha : 0 ≤ a ∧ a ≤ 3) (hb : ¬ (-1000000 ≤ b ∧ b ≤ 1000000)) (hq : qi 2 H) : Ci mX11_walkTo (d + 3) [(2, (X : Int)), (0, a), (0, b), (0, c)] K H qi := by
  refine eX11_walkTo fun _ _ _ _ => bX11_walkTo_0 ?_
  simp only [Int.toNat_natCast, Option.some.injEq, Prod.mk.injEq, true_and, and_true, exists_eq_left', hX]
  refine ⟨by omega, sp_X11_isSection ?_⟩
  rw [decide_eq_true ha]
  refine ⟨fun _ => sp_X11_isNear ?_, fun g => absurd g (by decide)⟩
  rw [decide_eq_false hb]
  exact ⟨fun g => absurd rfl g, fun _ => hq⟩
theorem sp_X12_wrong1 {qi : Int → Mem → Prop} {x0 : Int} (ha : ¬ (0 ≤ a ∧ a ≤ 3)) (hq : qi 1 H) : Ci mX12_wrong (d + 3) [(2, x0), (0, a), (0, b)] K H qi := by
  refine eX12_wrong fun _ _ _ => bX12_wrong_0 (sp_X12_isSection ?_)
  rw [decide_eq_false ha]
  exact ⟨fun g => absurd rfl g, fun _ => hq⟩
theorem sp_X12_wrong2 {qi : Int → Mem → Prop} {x0 : Int} (ha : 0 ≤ a ∧ a ≤ 3) (hb : ¬ (-1000000 ≤ b ∧ b ≤ 1000000)) (hq : qi 2 H) : Ci mX12_wrong (d + 3) [(2, x0), (0, a), (0, b)] K H qi := by
  refine eX12_wrong fun _ _ _ => bX12_wrong_0 (sp_X12_isSection ?_)
  rw [decide_eq_true ha]
  refine ⟨fun _ => sp_X12_isNumber ?_, fun g => absurd g (by decide)⟩
  rw [decide_eq_false hb]
  exact ⟨fun g => absurd rfl g, fun _ => hq⟩
theorem sp_X12_wrong {i nb nr s : Nat} {G : Mem} {qi : Int → Mem → Prop} (hk : RefS K M) (hp : RefP (G M) M) (hi : i < 4) (sI : SecI K H s nb nr) (sR : RSec G M i (H s 0) (H s 1) (H (s + 1)) (H (s + 2)) (H (s + 3)) nb (H (s + 4)) nr) (sS : ∀ r, r < nr → G (M + 13) (6 * i + r) = H (s + 5) r) (hb : -1000000 ≤ b ∧ b ≤ 1000000)
    (hq : ∀ H3, FC M [14] G H3 → StrB (H3 (M + 14)) 6 → UseZ (H3 (M + 14)) nr → (∀ r, r < nr → H3 (M + 14) r = H (s + 5) r) → RSec H3 M i (H s 0) (H s 1) (H (s + 1)) (H (s + 2)) (H (s + 3)) nb (H (s + 4)) nr → qi (if -sumN (H (s + 5)) nr ≤ b ∧ b ≤ H s 0 * areaF (H (s + 1)) (H (s + 2)) (H (s + 3)) nb + sumN (H (s + 5)) nr then 0 else 4) H3) : Ci mX12_wrong (d + 3) [(2, (M : Int)), (0, (i : Int)), (0, b)] K G qi := by
  obtain ⟨-, -, -, -, hf, hz, hB, hRo, hS5, -, -⟩ := sI
  refine eX12_wrong fun _ _ _ => bX12_wrong_0 (sp_X12_isSection ?_)
  rw [decide_eq_true (show 0 ≤ (i : Int) ∧ (i : Int) ≤ 3 by omega)]
  refine ⟨fun _ => sp_X12_isNumber ?_, fun g => absurd g (by decide)⟩
  rw [decide_eq_true hb]
  refine ⟨fun _ => ?_, fun g => absurd g (by decide)⟩
  simp only [Int.toNat_natCast, Option.some.injEq, Prod.mk.injEq, true_and, and_true, exists_eq_left', hk.k0]
  refine ⟨by omega, sp_X12_asTold hk hp hi sR.2.2.2.1 hRo.1 ?_⟩
  intro H3 e3 u3
  obtain ⟨u1, u2, u4⟩ := use_ok hRo.1 u3 sS hS5
  have sR3 : RSec H3 M i (H s 0) (H s 1) (H (s + 1)) (H (s + 2)) (H (s + 3)) nb (H (s + 4)) nr := sR.keep e3 rfl rfl rfl rfl rfl rfl rfl
  have hqq := hq H3 e3 u1 u2 u4 sR3
  refine sp_X12_isPush hk (by rw [e3.self rfl]; exact hp) hi sR3 hf hB hRo.1 u1 u2 ?_
  rw [sumN_congr u4]
  by_cases hc : -sumN (H (s + 5)) nr ≤ b ∧ b ≤ H s 0 * areaF (H (s + 1)) (H (s + 2)) (H (s + 3)) nb + sumN (H (s + 5)) nr
  · rw [if_pos hc] at hqq
    rw [decide_eq_true hc]
    exact ⟨fun g => absurd g (by decide), fun _ => hqq⟩
  · rw [if_neg hc] at hqq
    rw [decide_eq_false hc]
    exact ⟨fun _ => hqq, fun g => absurd rfl g⟩
set_option maxHeartbeats 2000000 in
theorem sim_bend (h : Inv K H X M) (hq : ∀ r H', Inv K H' X M → q r r H') : Ci mX11_bend (d + 12) [(2, (X : Int)), (0, a), (0, b), (0, c)] K H (fun r H1 => Ci mX12_bend (d + 12) [(2, (M : Int)), (0, a), (0, b), (0, c)] K H1 (fun r' H2 => q r r' H2)) := by
  have hI := h
  obtain ⟨hM, hS, hR, hScr, hC, hRP, ⟨nb, nr, np, nz, nsp, ld, hH⟩, ho, hst⟩ := hI
  have rej : ∀ w : Int, ∀ H1, H1 = upA H X (up1 (H X) 0 w) → Ci mX12_refuse (d + 11) [(2, (M : Int)), (0, w)] K H1 (fun x H2 => q (-1) x H2) := fun w H1 e1 => sp_X12_refuse hR.k0 (fun H2 e2 => hq _ _ (h.stat e1 e2))
  have hWS : WkS K (X + 69) := hS.2.2.2.2.2.2.2.2.2.2.2.2.1
  refine eX11_bend fun _ _ _ _ => bX11_bend_0 ?_
  simp only [Int.toNat_natCast, Option.some.injEq, Prod.mk.injEq, true_and, and_true, exists_eq_left', hS.1]
  refine ⟨by omega, ?_⟩
  by_cases ha : 0 ≤ a ∧ a ≤ 3
  · by_cases hb : -1000000 ≤ b ∧ b ≤ 1000000
    · obtain ⟨i, rfl⟩ : ∃ i : Nat, a = (i : Int) := ⟨a.toNat, by omega⟩
      have hi : i < 4 := by omega
      obtain ⟨⟨sI, sR, sS⟩, sB⟩ := hH.1 i hi
      have sI' := sI
      obtain ⟨hk, hp, hn, hr, hf, hz, hB, hRo, hS5, h2, hE⟩ := sI'
      have hr6 := hRo.1
      have hpb := pull_bd hS5 (nr i) (Nat.le_refl _)
      have hfa := fareab hf hB
      refine sp_X11_walkTo hS hC.1 hi (hC.2.2.1 i hi) hScr.2.2.2.2.1 sI hb ?_ ?_
      · intro hno G g1 g2
        refine ⟨fun _ => sp_X11_refuse hS.1 (fun H1 e1 => ?_), fun g => absurd g (by decide)⟩
        have c1 : ∀ x, x ≠ X → (x < X + 69 ∨ X + 72 < x) → H1 x = H x := fun x hx h9 => by rw [e1, upA_ne hx, g1 x h9]
        have cX : H1 X = up1 (H X) 0 4 := by rw [e1, upA_same, g1 X (by omega)]
        have hsc : ScrP K H1 X := hScr.walk (fun x h9 hx => c1 x hx h9) (by rw [e1, upA_ne (by omega)]; exact g2)
        have cm : ∀ x, M ≤ x → H1 x = H x := fun x hx => c1 x (by omega) (by omega)
        refine eX12_bend fun _ _ _ _ => bX12_bend_0 ?_
        simp only [Int.toNat_natCast, Option.some.injEq, Prod.mk.injEq, true_and, and_true, exists_eq_left', hR.k0]
        refine ⟨by omega, sp_X12_wrong (H := H) (s := X + 83 + 10 * i) hR (by rw [cm M (by omega)]; exact hRP) hi sI ?_ ?_ hb ?_⟩
        · unfold RSec at *
          rw [cm (M + 6) (by omega), cm (M + 7) (by omega), cm (M + 8) (by omega), cm (M + 9) (by omega), cm (M + 10) (by omega), cm (M + 11) (by omega), cm (M + 12) (by omega)]
          exact sR
        · rw [cm (M + 13) (by omega)]; exact sS
        · intro H3 e3 u1 u2 u4 sR3
          rw [if_neg hno]
          refine ⟨fun g => absurd g (by decide), fun _ => sp_X12_refuse hR.k0 (fun H4 e4 => hq _ _ ?_)⟩
          refine h.ask2 (H1 := H1) (v := 4) (fun x hx _ h9 => c1 x hx (by omega)) cX hsc ?_ ?_ ?_
          · rw [e4]
            exact e3.tr (FC.up0 (l := [0]) rfl) rfl rfl
          · rw [e4, upA_same, e3.self rfl]; exact FO.up rfl
          · rw [e4, upA_same, up1_same]
      · intro G N D P Z hc hW g1 g2 g3 g4 g5 g6
        have hbd := walkR_bd hf hz hB hRo hS5 (by omega) hW
        have hdn : D * (240000 + 200 * (b + sumN (H (X + 83 + 10 * i + 5)) (nr i))) ≤ 80000 * 800720000 := Int.mul_le_mul (by omega) (by omega) (by omega) (by decide)
        have hsg : sgF c = 1 ∨ sgF c = -1 := by unfold sgF; split <;> omega
        have hTop : -1000000000000000000 < sgF c * N ∧ sgF c * N < 1000000000000000000 := by rcases hsg with e | e <;> rw [e] <;> omega
        refine ⟨fun g => absurd rfl g, fun _ => ?_⟩
        simp only [Int.toNat_natCast, Option.some.injEq, Prod.mk.injEq, true_and, and_true, exists_eq_left', g1 X (by omega), hC.1.2.2.2.2.2.1, hWS.1, g2.1]
        refine ⟨by omega, sp_X11_giveShare (s := X + 70) hS (by rw [g1 X (by omega)]; exact hC.1) (by rw [g1 _ (by omega)]; exact hC.2.1.1) (by rw [g1 _ (by omega)]; exact hC.2.1.2) (hScr.1.cells (fun j hj => g1 _ (by omega))) (by omega) (by rw [g4]; omega) (by rw [g4]; omega) (by rw [g3]; exact hTop.1) (by rw [g3]; exact hTop.2) ?_⟩
        intro H1 P' Q' r1 r2 c1 cX c2 c3 c4 c5 c6
        rw [g3, g4] at r2
        rw [g1 X (by omega)] at cX
        have k1 : ∀ x, x ≠ X → ¬ (X + 1 ≤ x ∧ x ≤ X + 13) → ¬ (X + 69 ≤ x ∧ x ≤ X + 72) → H1 x = H x := fun x x0 x1 x2 => by rw [c1 x x0 (by omega) (by omega), g1 x (by omega)]
        have cm : ∀ x, M ≤ x → H1 x = H x := fun x hx => k1 x (by omega) (by omega) (by omega)
        have hsc : ScrP K H1 X := by
          obtain ⟨z1, z2, z3, z4, z5, z6, z7⟩ := hScr
          exact ⟨c6, z2.cells (fun j hj => k1 _ (by omega) (by omega) (by omega)), z3.cells (fun j hj => k1 _ (by omega) (by omega) (by omega)), by rw [k1 _ (by omega) (by omega) (by omega)]; exact z4, by rw [c1 _ (by omega) (by omega) (by omega)]; exact g2, by rw [k1 _ (by omega) (by omega) (by omega)]; exact z6, by rw [k1 _ (by omega) (by omega) (by omega)]; exact z7⟩
        refine eX12_bend fun _ _ _ _ => bX12_bend_0 ?_
        simp only [Int.toNat_natCast, Option.some.injEq, Prod.mk.injEq, true_and, and_true, exists_eq_left', hR.k0]
        refine ⟨by omega, sp_X12_wrong (H := H) (s := X + 83 + 10 * i) hR (by rw [cm M (by omega)]; exact hRP) hi sI ?_ ?_ hb ?_⟩
        · unfold RSec at *
          rw [cm (M + 6) (by omega), cm (M + 7) (by omega), cm (M + 8) (by omega), cm (M + 9) (by omega), cm (M + 10) (by omega), cm (M + 11) (by omega), cm (M + 12) (by omega)]
          exact sR
        · rw [cm (M + 13) (by omega)]; exact sS
        · intro H3 e3 u1 u2 u4 sR3
          rw [if_pos hc]
          refine ⟨fun _ => ?_, fun g => absurd (by omega) g⟩
          have m3 : H3 M = H M := by rw [e3.self rfl, cm M (by omega)]
          have hsu : sumN (H3 (M + 14)) (nr i) = sumN (H (X + 83 + 10 * i + 5)) (nr i) := sumN_congr u4
          refine sp_X12_go hR (by rw [m3]; exact hRP) hi sR3 hf hz hB hRo u1 u2 (by rw [hsu]; omega) (by rw [hsu]; omega) (N := N) (D := D) (P := P) (Z := Z) (by rw [hsu, walkR_congr u4]; exact hW) ?_
          intro H4 d1 d2 d3 d4 d5 d6 H5 e5
          have m5 : H5 M = up1 (H4 M) 2 0 := by rw [e5, upA_same]
          have f5 : FC M [0] H4 H5 := by rw [e5]; exact FC.up0 rfl
          have p4 : FO [19, 20, 21, 22] (H M) (H4 M) := by rw [m3] at d2; exact d2
          have hp5 : RefP (H5 M) M := by rw [m5]; exact (hRP.cong _ rfl p4).cong [2] rfl (FO.up rfl)
          have v19 : H5 M 19 = sgF c * N := by rw [m5, up1_ne (by decide)]; exact d3
          have v20 : H5 M 20 = D := by rw [m5, up1_ne (by decide)]; exact d4
          rw [v19]
          refine sp_X12_whole (t := 0) hR hp5 (by rw [m5, up1_same]; rfl) (by omega) (by omega) ?_
          rintro H6 n6 hn6 ⟨x1, x2, x3, x4, x5⟩
          have hp6 : RefP (H6 M) M := hp5.cong _ rfl x2
          rw [x2 20 rfl, v20]
          refine sp_X12_whole (t := 0 + n6 + 1) hR hp6 x3 (by omega) (by omega) ?_
          rintro H7 n7 hn7 ⟨y1, y2, y3, y4, y5⟩
          have hp7 : RefP (H7 M) M := hp6.cong _ rfl y2
          have hBp : 0 < D := by omega
          obtain ⟨rr1, rr2⟩ := red_of (N := sgF c * N) (D := D) hBp
          have hun := red_unique r1 rr1 (by
            have e : P' * D * (D).tdiv ((Nat.gcd (sgF c * N).natAbs (D).natAbs : Nat) : Int) = (sgF c * N).tdiv ((Nat.gcd (sgF c * N).natAbs (D).natAbs : Nat) : Int) * D * Q' := by
              rw [r2, rr2]
              generalize (D).tdiv ((Nat.gcd (sgF c * N).natAbs (D).natAbs : Nat) : Int) = y
              generalize sgF c * N = w
              grind
            have e2 : D * (P' * (D).tdiv ((Nat.gcd (sgF c * N).natAbs (D).natAbs : Nat) : Int)) = D * ((sgF c * N).tdiv ((Nat.gcd (sgF c * N).natAbs (D).natAbs : Nat) : Int) * Q') := by
              generalize (D).tdiv ((Nat.gcd (sgF c * N).natAbs (D).natAbs : Nat) : Int) = y at *
              generalize (sgF c * N).tdiv ((Nat.gcd (sgF c * N).natAbs (D).natAbs : Nat) : Int) = z at *
              clear rr1 rr2 hdn hbd
              grind
            exact Int.eq_of_mul_eq_mul_left (by omega) e2)
          have hfl : (fracL P' Q').length = (numL P').length + 1 + (numL Q').length := by unfold fracL; simp; omega
          refine sp_X12_tells (t := 0 + n6 + 1 + n7 + 1) hR hp7 y3 (by omega) (by omega) (by omega) (by omega) (by omega) (x5.keep (t := 0 + n6 + 1) (by omega) y4) y5 hBp ?_ ?_
          · rw [← hun.1, ← hun.2]; omega
          · rw [← hun.1, ← hun.2]
            intro H8 z1 z2 z3 z4 z5
            refine hq _ _ (h.askOut (H1 := H1) (L := fracL P' Q') (fun x x0 x1 _ _ x2 => k1 x x0 x1 (by omega)) (by rw [cX]; exact FO.up rfl) (by rw [g1 _ (by omega)] at c2; exact c2) (by rw [k1 _ (by omega) (by omega) (by omega)]; exact FO.rf) hsc ?_ ?_ (by omega) c3 c5 z4 z5 (by rw [cX, up1_same, z3]))
            · exact ((((e3.wide (l' := [0, 1, 2, 3, 4, 5, 14, 19, 26]) rfl).same (d1.wide rfl)).same (f5.wide rfl)).same (x1.wide rfl)).same ((y1.wide rfl)) |>.same (z1.wide rfl)
            · rw [cm M (by omega)]
              rw [m5] at x2
              exact (((((p4.wide (l' := [0, 2, 6, 7, 9, 19, 20, 21, 22, 30, 38, 39, 40, 41, 42, 43, 44, 45, 46, 47, 48, 50]) rfl).same (FO.up rfl)).same (x2.wide rfl)).same (y2.wide rfl)).same (z2.wide rfl))
    · refine sp_X11_walkTo2 hS.1 ha hb ⟨fun _ => sp_X11_refuse hS.1 (fun H1 e1 => ?_), fun g => absurd g (by decide)⟩
      refine eX12_bend fun _ _ _ _ => bX12_bend_0 ?_
      simp only [Int.toNat_natCast, Option.some.injEq, Prod.mk.injEq, true_and, and_true, exists_eq_left', hR.k0]
      exact ⟨by omega, sp_X12_wrong2 ha hb ⟨fun g => absurd g (by decide), fun _ => rej 2 H1 e1⟩⟩
  · refine sp_X11_walkTo1 hS.1 ha ⟨fun _ => sp_X11_refuse hS.1 (fun H1 e1 => ?_), fun g => absurd g (by decide)⟩
    refine eX12_bend fun _ _ _ _ => bX12_bend_0 ?_
    simp only [Int.toNat_natCast, Option.some.injEq, Prod.mk.injEq, true_and, and_true, exists_eq_left', hR.k0]
    exact ⟨by omega, sp_X12_wrong1 ha ⟨fun g => absurd g (by decide), fun _ => rej 1 H1 e1⟩⟩
set_option maxHeartbeats 2000000 in
theorem sim_cut (h : Inv K H X M) (hq : ∀ r H', Inv K H' X M → q r r H') : Ci mX11_cut (d + 12) [(2, (X : Int)), (0, a), (0, b), (0, c)] K H (fun r H1 => Ci mX12_cut (d + 12) [(2, (M : Int)), (0, a), (0, b), (0, c)] K H1 (fun r' H2 => q r r' H2)) := by
  have hI := h
  obtain ⟨hM, hS, hR, hScr, hC, hRP, ⟨nb, nr, np, nz, nsp, ld, hH⟩, ho, hst⟩ := hI
  have rej : ∀ w : Int, ∀ H1, H1 = upA H X (up1 (H X) 0 w) → Ci mX12_refuse (d + 11) [(2, (M : Int)), (0, w)] K H1 (fun x H2 => q (-1) x H2) := fun w H1 e1 => sp_X12_refuse hR.k0 (fun H2 e2 => hq _ _ (h.stat e1 e2))
  have hWS : WkS K (X + 69) := hS.2.2.2.2.2.2.2.2.2.2.2.2.1
  refine eX11_cut fun _ _ _ _ => bX11_cut_0 ?_
  simp only [Int.toNat_natCast, Option.some.injEq, Prod.mk.injEq, true_and, and_true, exists_eq_left', hS.1]
  refine ⟨by omega, ?_⟩
  by_cases ha : 0 ≤ a ∧ a ≤ 3
  · by_cases hb : -1000000 ≤ b ∧ b ≤ 1000000
    · obtain ⟨i, rfl⟩ : ∃ i : Nat, a = (i : Int) := ⟨a.toNat, by omega⟩
      have hi : i < 4 := by omega
      obtain ⟨⟨sI, sR, sS⟩, sB⟩ := hH.1 i hi
      have sI' := sI
      obtain ⟨hk, hp, hn, hr, hf, hz, hB, hRo, hS5, h2, hE⟩ := sI'
      have hr6 := hRo.1
      have hpb := pull_bd hS5 (nr i) (Nat.le_refl _)
      have hfa := fareab hf hB
      refine sp_X11_walkTo hS hC.1 hi (hC.2.2.1 i hi) hScr.2.2.2.2.1 sI hb ?_ ?_
      · intro hno G g1 g2
        refine ⟨fun _ => sp_X11_refuse hS.1 (fun H1 e1 => ?_), fun g => absurd g (by decide)⟩
        have c1 : ∀ x, x ≠ X → (x < X + 69 ∨ X + 72 < x) → H1 x = H x := fun x hx h9 => by rw [e1, upA_ne hx, g1 x h9]
        have cX : H1 X = up1 (H X) 0 4 := by rw [e1, upA_same, g1 X (by omega)]
        have hsc : ScrP K H1 X := hScr.walk (fun x h9 hx => c1 x hx h9) (by rw [e1, upA_ne (by omega)]; exact g2)
        have cm : ∀ x, M ≤ x → H1 x = H x := fun x hx => c1 x (by omega) (by omega)
        refine eX12_cut fun _ _ _ _ => bX12_cut_0 ?_
        simp only [Int.toNat_natCast, Option.some.injEq, Prod.mk.injEq, true_and, and_true, exists_eq_left', hR.k0]
        refine ⟨by omega, sp_X12_wrong (H := H) (s := X + 83 + 10 * i) hR (by rw [cm M (by omega)]; exact hRP) hi sI ?_ ?_ hb ?_⟩
        · unfold RSec at *
          rw [cm (M + 6) (by omega), cm (M + 7) (by omega), cm (M + 8) (by omega), cm (M + 9) (by omega), cm (M + 10) (by omega), cm (M + 11) (by omega), cm (M + 12) (by omega)]
          exact sR
        · rw [cm (M + 13) (by omega)]; exact sS
        · intro H3 e3 u1 u2 u4 sR3
          rw [if_neg hno]
          refine ⟨fun g => absurd g (by decide), fun _ => sp_X12_refuse hR.k0 (fun H4 e4 => hq _ _ ?_)⟩
          refine h.ask2 (H1 := H1) (v := 4) (fun x hx _ h9 => c1 x hx (by omega)) cX hsc ?_ ?_ ?_
          · rw [e4]
            exact e3.tr (FC.up0 (l := [0]) rfl) rfl rfl
          · rw [e4, upA_same, e3.self rfl]; exact FO.up rfl
          · rw [e4, upA_same, up1_same]
      · intro G N D P Z hc hW g1 g2 g3 g4 g5 g6
        have hbd := walkR_bd hf hz hB hRo hS5 (by omega) hW
        have hdn : D * (240000 + 200 * (b + sumN (H (X + 83 + 10 * i + 5)) (nr i))) ≤ 80000 * 800720000 := Int.mul_le_mul (by omega) (by omega) (by omega) (by decide)
        have hsg : sgF c = 1 ∨ sgF c = -1 := by unfold sgF; split <;> omega
        have hTop : -1000000000000000000 < cutT c P Z ∧ cutT c P Z < 1000000000000000000 := by unfold cutT; split <;> omega
        refine ⟨fun g => absurd rfl g, fun _ => ?_⟩
        simp only [Int.toNat_natCast, Option.some.injEq, Prod.mk.injEq, true_and, and_true, exists_eq_left', g1 X (by omega), hC.1.2.2.2.2.2.1, hWS.1, g2.2.1]
        refine ⟨by omega, sp_X11_giveShare (s := X + 71) hS (by rw [g1 X (by omega)]; exact hC.1) (by rw [g1 _ (by omega)]; exact hC.2.1.1) (by rw [g1 _ (by omega)]; exact hC.2.1.2) (hScr.1.cells (fun j hj => g1 _ (by omega))) (by omega) (by rw [g6]; omega) (by rw [g6]; omega) (by rw [g5]; exact hTop.1) (by rw [g5]; exact hTop.2) ?_⟩
        intro H1 P' Q' r1 r2 c1 cX c2 c3 c4 c5 c6
        rw [g5, g6] at r2
        rw [g1 X (by omega)] at cX
        have k1 : ∀ x, x ≠ X → ¬ (X + 1 ≤ x ∧ x ≤ X + 13) → ¬ (X + 69 ≤ x ∧ x ≤ X + 72) → H1 x = H x := fun x x0 x1 x2 => by rw [c1 x x0 (by omega) (by omega), g1 x (by omega)]
        have cm : ∀ x, M ≤ x → H1 x = H x := fun x hx => k1 x (by omega) (by omega) (by omega)
        have hsc : ScrP K H1 X := by
          obtain ⟨z1, z2, z3, z4, z5, z6, z7⟩ := hScr
          exact ⟨c6, z2.cells (fun j hj => k1 _ (by omega) (by omega) (by omega)), z3.cells (fun j hj => k1 _ (by omega) (by omega) (by omega)), by rw [k1 _ (by omega) (by omega) (by omega)]; exact z4, by rw [c1 _ (by omega) (by omega) (by omega)]; exact g2, by rw [k1 _ (by omega) (by omega) (by omega)]; exact z6, by rw [k1 _ (by omega) (by omega) (by omega)]; exact z7⟩
        refine eX12_cut fun _ _ _ _ => bX12_cut_0 ?_
        simp only [Int.toNat_natCast, Option.some.injEq, Prod.mk.injEq, true_and, and_true, exists_eq_left', hR.k0]
        refine ⟨by omega, sp_X12_wrong (H := H) (s := X + 83 + 10 * i) hR (by rw [cm M (by omega)]; exact hRP) hi sI ?_ ?_ hb ?_⟩
        · unfold RSec at *
          rw [cm (M + 6) (by omega), cm (M + 7) (by omega), cm (M + 8) (by omega), cm (M + 9) (by omega), cm (M + 10) (by omega), cm (M + 11) (by omega), cm (M + 12) (by omega)]
          exact sR
        · rw [cm (M + 13) (by omega)]; exact sS
        · intro H3 e3 u1 u2 u4 sR3
          rw [if_pos hc]
          refine ⟨fun _ => ?_, fun g => absurd (by omega) g⟩
          have m3 : H3 M = H M := by rw [e3.self rfl, cm M (by omega)]
          have hsu : sumN (H3 (M + 14)) (nr i) = sumN (H (X + 83 + 10 * i + 5)) (nr i) := sumN_congr u4
          refine sp_X12_go hR (by rw [m3]; exact hRP) hi sR3 hf hz hB hRo u1 u2 (by rw [hsu]; omega) (by rw [hsu]; omega) (N := N) (D := D) (P := P) (Z := Z) (by rw [hsu, walkR_congr u4]; exact hW) ?_
          intro H4 d1 d2 d3 d4 d5 d6 H5 e5
          have m5 : H5 M = up1 (H4 M) 2 0 := by rw [e5, upA_same]
          have f5 : FC M [0] H4 H5 := by rw [e5]; exact FC.up0 rfl
          have p4 : FO [19, 20, 21, 22] (H M) (H4 M) := by rw [m3] at d2; exact d2
          have hp5 : RefP (H5 M) M := by rw [m5]; exact (hRP.cong _ rfl p4).cong [2] rfl (FO.up rfl)
          have v19 : H5 M 21 = cutT c P Z := by rw [m5, up1_ne (by decide)]; exact d5
          have v20 : H5 M 22 = Z := by rw [m5, up1_ne (by decide)]; exact d6
          rw [v19]
          refine sp_X12_whole (t := 0) hR hp5 (by rw [m5, up1_same]; rfl) (by omega) (by omega) ?_
          rintro H6 n6 hn6 ⟨x1, x2, x3, x4, x5⟩
          have hp6 : RefP (H6 M) M := hp5.cong _ rfl x2
          rw [x2 22 rfl, v20]
          refine sp_X12_whole (t := 0 + n6 + 1) hR hp6 x3 (by omega) (by omega) ?_
          rintro H7 n7 hn7 ⟨y1, y2, y3, y4, y5⟩
          have hp7 : RefP (H7 M) M := hp6.cong _ rfl y2
          have hBp : 0 < Z := by omega
          obtain ⟨rr1, rr2⟩ := red_of (N := cutT c P Z) (D := Z) hBp
          have hun := red_unique r1 rr1 (by
            have e : P' * Z * (Z).tdiv ((Nat.gcd (cutT c P Z).natAbs (Z).natAbs : Nat) : Int) = (cutT c P Z).tdiv ((Nat.gcd (cutT c P Z).natAbs (Z).natAbs : Nat) : Int) * Z * Q' := by
              rw [r2, rr2]
              generalize (Z).tdiv ((Nat.gcd (cutT c P Z).natAbs (Z).natAbs : Nat) : Int) = y
              generalize cutT c P Z = w
              grind
            have e2 : Z * (P' * (Z).tdiv ((Nat.gcd (cutT c P Z).natAbs (Z).natAbs : Nat) : Int)) = Z * ((cutT c P Z).tdiv ((Nat.gcd (cutT c P Z).natAbs (Z).natAbs : Nat) : Int) * Q') := by
              generalize (Z).tdiv ((Nat.gcd (cutT c P Z).natAbs (Z).natAbs : Nat) : Int) = y at *
              generalize (cutT c P Z).tdiv ((Nat.gcd (cutT c P Z).natAbs (Z).natAbs : Nat) : Int) = z at *
              clear rr1 rr2 hdn hbd
              grind
            exact Int.eq_of_mul_eq_mul_left (by omega) e2)
          have hfl : (fracL P' Q').length = (numL P').length + 1 + (numL Q').length := by unfold fracL; simp; omega
          refine sp_X12_tells (t := 0 + n6 + 1 + n7 + 1) hR hp7 y3 (by omega) (by omega) (by omega) (by omega) (by omega) (x5.keep (t := 0 + n6 + 1) (by omega) y4) y5 hBp ?_ ?_
          · rw [← hun.1, ← hun.2]; omega
          · rw [← hun.1, ← hun.2]
            intro H8 z1 z2 z3 z4 z5
            refine hq _ _ (h.askOut (H1 := H1) (L := fracL P' Q') (fun x x0 x1 _ _ x2 => k1 x x0 x1 (by omega)) (by rw [cX]; exact FO.up rfl) (by rw [g1 _ (by omega)] at c2; exact c2) (by rw [k1 _ (by omega) (by omega) (by omega)]; exact FO.rf) hsc ?_ ?_ (by omega) c3 c5 z4 z5 (by rw [cX, up1_same, z3]))
            · exact ((((e3.wide (l' := [0, 1, 2, 3, 4, 5, 14, 19, 26]) rfl).same (d1.wide rfl)).same (f5.wide rfl)).same (x1.wide rfl)).same ((y1.wide rfl)) |>.same (z1.wide rfl)
            · rw [cm M (by omega)]
              rw [m5] at x2
              exact (((((p4.wide (l' := [0, 2, 6, 7, 9, 19, 20, 21, 22, 30, 38, 39, 40, 41, 42, 43, 44, 45, 46, 47, 48, 50]) rfl).same (FO.up rfl)).same (x2.wide rfl)).same (y2.wide rfl)).same (z2.wide rfl))
    · refine sp_X11_walkTo2 hS.1 ha hb ⟨fun _ => sp_X11_refuse hS.1 (fun H1 e1 => ?_), fun g => absurd g (by decide)⟩
      refine eX12_cut fun _ _ _ _ => bX12_cut_0 ?_
      simp only [Int.toNat_natCast, Option.some.injEq, Prod.mk.injEq, true_and, and_true, exists_eq_left', hR.k0]
      exact ⟨by omega, sp_X12_wrong2 ha hb ⟨fun g => absurd g (by decide), fun _ => rej 2 H1 e1⟩⟩
  · refine sp_X11_walkTo1 hS.1 ha ⟨fun _ => sp_X11_refuse hS.1 (fun H1 e1 => ?_), fun g => absurd g (by decide)⟩
    refine eX12_cut fun _ _ _ _ => bX12_cut_0 ?_
    simp only [Int.toNat_natCast, Option.some.injEq, Prod.mk.injEq, true_and, and_true, exists_eq_left', hR.k0]
    exact ⟨by omega, sp_X12_wrong1 ha ⟨fun g => absurd g (by decide), fun _ => rej 1 H1 e1⟩⟩
end S8
