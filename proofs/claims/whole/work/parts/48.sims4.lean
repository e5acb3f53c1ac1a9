/-! side by side: told, borne, safe -/
section S4
variable {d : Nat} {K : Shp} {H : Mem} {X M : Nat} {q : Int → Int → Mem → Prop} {a b c : Int}
set_option maxHeartbeats 2000000 in
theorem sim_told (h : Inv K H X M) (hq : ∀ r H', Inv K H' X M → q r r H') : Ci mX11_told (d + 12) [(2, (X : Int)), (0, a), (0, b)] K H (fun r H1 => Ci mX12_told (d + 12) [(2, (M : Int)), (0, a), (0, b)] K H1 (fun r' H2 => q r r' H2)) := by
  have hI := h
  obtain ⟨hM, hS, hR, hScr, hC, hRP, ⟨nb, nr, np, nz, nsp, ld, hH⟩, ho, hst⟩ := hI
  have rej : ∀ w : Int, ∀ H1, H1 = upA H X (up1 (H X) 0 w) → Ci mX12_refuse (d + 11) [(2, (M : Int)), (0, w)] K H1 (fun x H2 => q (-1) x H2) := fun w H1 e1 => sp_X12_refuse hR.k0 (fun H2 e2 => hq _ _ (h.stat e1 e2))
  refine eX11_told fun _ _ _ => bX11_told_0 ?_
  simp only [Int.toNat_natCast, Option.some.injEq, Prod.mk.injEq, true_and, and_true, exists_eq_left', hS.1]
  refine ⟨by omega, sp_X11_isSection ?_⟩
  by_cases ha : 0 ≤ a ∧ a ≤ 3
  · rw [decide_eq_true ha]
    refine ⟨fun _ => ?_, fun g => absurd g (by decide)⟩
    obtain ⟨i, rfl⟩ : ∃ i : Nat, a = (i : Int) := ⟨a.toNat, by omega⟩
    have hi : i < 4 := by omega
    obtain ⟨⟨sI, sR, sS⟩, sB⟩ := hH.1 i hi
    have sI' := sI
    obtain ⟨hk, hp, hn, hr, hf, hz, hB, hRo, hS5, h2, hE⟩ := sI'
    have hr6 := hRo.1
    have hpb := pull_bd hS5 (nr i) (Nat.le_refl _)
    have hfa := fareab hf hB
    simp only [Int.toNat_natCast, Option.some.injEq, Prod.mk.injEq, true_and, and_true, exists_eq_left', hC.1.2.1, hS.2.2.2.1, hC.2.2.1 i hi, hk.1, hn, hr, h2]
    have main : ∀ v : Int, 0 ≤ b → b ≤ 6 → (∀ H3 : Mem, FC M [14] (upA (upA H X (up1 (H X) 0 0)) M (up1 (H M) 0 0)) H3 → StrB (H3 (M + 14)) 6 → UseZ (H3 (M + 14)) (nr i) → (∀ r, r < nr i → H3 (M + 14) r = H (X + 83 + 10 * i + 5) r) → RefP (H3 M) M → RSec H3 M i (H (X + 83 + 10 * i) 0) (H (X + 83 + 10 * i) 1) (H (X + 83 + 10 * i + 1)) (H (X + 83 + 10 * i + 2)) (H (X + 83 + 10 * i + 3)) (nb i) (H (X + 83 + 10 * i + 4)) (nr i) → ∀ q' : Int → Mem → Prop, q' v H3 → ((b = 0 → ((0 : Int) ≤ (H3 M 10)) ∧ ∃ n16 : Nat, (K[((H3 M 10) : Int).toNat]? = some (20, n16)) ∧ ((0 : Int) ≤ (i : Int)) ∧ ((i : Int) < n16) ∧ q' (H3 ((H3 M 10) : Int).toNat i) H3) ∧ (b = 1 → ((0 : Int) ≤ (H3 M 11)) ∧ ∃ n21 : Nat, (K[((H3 M 11) : Int).toNat]? = some (20, n21)) ∧ ((0 : Int) ≤ (i : Int)) ∧ ((i : Int) < n21) ∧ q' (H3 ((H3 M 11) : Int).toNat i) H3) ∧ (b = 2 → ((0 : Int) ≤ (H3 M 12)) ∧ ∃ n26 : Nat, (K[((H3 M 12) : Int).toNat]? = some (20, n26)) ∧ ((0 : Int) ≤ (i : Int)) ∧ ((i : Int) < n26) ∧ q' (H3 ((H3 M 12) : Int).toNat i) H3) ∧ (b = 3 → ((0 : Int) ≤ (H3 M 13)) ∧ ∃ n31 : Nat, (K[((H3 M 13) : Int).toNat]? = some (20, n31)) ∧ ((0 : Int) ≤ (i : Int)) ∧ ((i : Int) < n31) ∧ q' (H3 ((H3 M 13) : Int).toNat i) H3) ∧ (b = 4 → ((0 : Int) ≤ (H3 M 14)) ∧ ∃ n36 : Nat, (K[((H3 M 14) : Int).toNat]? = some (20, n36)) ∧ ((0 : Int) ≤ (i : Int)) ∧ ((i : Int) < n36) ∧ q' (H3 ((H3 M 14) : Int).toNat i) H3) ∧ (b = 5 → Ci mX12_greatest (d + 11) [(2, (M : Int)), (0, (i : Int))] K H3 (fun x41 H40 => q' x41 H40)) ∧ ((b < 0 ∨ 5 < b) → Ci mX12_pulls (d + 11) [(2, (M : Int))] K H3 (fun x43 H42 => (inI (-x43)) ∧ q' (-x43) H42)))) → Ci mX11_give (d + 11) [(2, (X : Int)), (0, v)] K H (fun x H1 => Ci mX12_told (d + 12) [(2, (M : Int)), (0, (i : Int)), (0, b)] K H1 (fun r' H2 => q x r' H2)) := by
      intro v b0 b6 hv
      refine sp_X11_give hS.1 (fun H1 e1 => ?_)
      have c1 : ∀ x, x ≠ X → H1 x = H x := fun x hx => by rw [e1, upA_ne hx]
      refine eX12_told fun _ _ _ => bX12_told_0 (sp_X12_isSection ?_)
      rw [decide_eq_true ha]
      refine ⟨fun _ => ⟨fun g => absurd g (by omega), fun _ => ⟨fun _ => ?_, fun g => absurd b6 g⟩⟩, fun g => absurd g (by decide)⟩
      simp only [Int.toNat_natCast, Option.some.injEq, Prod.mk.injEq, true_and, and_true, exists_eq_left', hR.k0]
      refine ⟨by omega, fun H2 e2 => ?_⟩
      have c2 : ∀ x, x ≠ M → H2 x = H1 x := fun x hx => by rw [e2, upA_ne hx]
      have m2 : H2 M = up1 (H M) 0 0 := by rw [e2, upA_same, c1 M (by omega)]
      have hp2 : RefP (H2 M) M := by rw [m2]; exact hRP.cong [0] rfl (FO.up rfl)
      have g2 : ∀ j, 0 < j → H2 (M + j) = H (M + j) := fun j hj => by rw [c2 _ (by omega), c1 _ (by omega)]
      have sR2 : RSec H2 M i (H (X + 83 + 10 * i) 0) (H (X + 83 + 10 * i) 1) (H (X + 83 + 10 * i + 1)) (H (X + 83 + 10 * i + 2)) (H (X + 83 + 10 * i + 3)) (nb i) (H (X + 83 + 10 * i + 4)) (nr i) := by
        unfold RSec at *
        rw [g2 6 (by omega), g2 7 (by omega), g2 8 (by omega), g2 9 (by omega), g2 10 (by omega), g2 11 (by omega), g2 12 (by omega)]
        exact sR
      refine sp_X12_asTold hR hp2 hi sR2.2.2.2.1 hr6 ?_
      intro H3 e3 u3
      rw [g2 13 (by omega)] at u3
      obtain ⟨u1, u2, u4⟩ := use_ok hr6 u3 sS hS5
      have hcm : upA (upA H X (up1 (H X) 0 0)) M (up1 (H M) 0 0) = H2 := by rw [e2, e1, upA_ne (show M ≠ X by omega)]
      rw [hcm] at hv
      have m3 : H3 M = H2 M := e3.self rfl
      have hi3 : Inv K H3 X M := by
        refine h.ask2 (H1 := H1) (v := 0) (fun x hx _ _ => c1 x hx) (by rw [e1, upA_same]) (hScr.cells (fun x hx => c1 x (by omega))) ?_ ?_ ?_
        · rw [e2] at e3
          exact (FC.up0 (l := [0]) rfl).tr e3 rfl rfl
        · rw [m3, m2, c1 M (by omega)]; exact FO.up rfl
        · rw [m3, m2, up1_same]
      exact hv H3 e3 u1 u2 u4 (by rw [m3]; exact hp2) (sR2.keep e3 rfl rfl rfl rfl rfl rfl rfl) _ (hq _ _ hi3)
    refine ⟨by omega, by omega, by omega, fun g => ⟨by omega, ?_⟩, fun g => ⟨by omega, ?_⟩, fun g => ⟨by omega, ?_⟩, fun g => ⟨by omega, ?_⟩, fun g => ⟨by omega, sp_X4_area hk hp hn hB ?_⟩, fun g => ⟨by omega, sp_X4_rodsTogether hk hp hr hr6 hS5 ⟨⟨by omega, by omega⟩, ?_⟩⟩, fun g => ⟨by omega, sp_X4_rodsTogether hk hp hr hr6 hS5 ⟨⟨by omega, by omega⟩, ?_⟩⟩, fun g => sp_X11_refuse hS.1 (fun H1 e1 => ?_)⟩
    · refine main _ (by omega) (by omega) (fun H3 e3 u1 u2 u4 hp3 hr3 q' hq' => ?_)
      simp only [Int.toNat_natCast, Option.some.injEq, Prod.mk.injEq, true_and, and_true, exists_eq_left', hp3.p10, hR.k6, hr3.1]
      exact ⟨fun _ => ⟨by omega, by omega, by omega, hq'⟩, fun g => absurd g (by omega), fun g => absurd g (by omega), fun g => absurd g (by omega), fun g => absurd g (by omega), fun g => absurd g (by omega), fun g => absurd g (by omega)⟩
    · refine main _ (by omega) (by omega) (fun H3 e3 u1 u2 u4 hp3 hr3 q' hq' => ?_)
      simp only [Int.toNat_natCast, Option.some.injEq, Prod.mk.injEq, true_and, and_true, exists_eq_left', hp3.p11, hR.k7, hr3.2.1]
      exact ⟨fun g => absurd g (by omega), fun _ => ⟨by omega, by omega, by omega, hq'⟩, fun g => absurd g (by omega), fun g => absurd g (by omega), fun g => absurd g (by omega), fun g => absurd g (by omega), fun g => absurd g (by omega)⟩
    · refine main _ (by omega) (by omega) (fun H3 e3 u1 u2 u4 hp3 hr3 q' hq' => ?_)
      simp only [Int.toNat_natCast, Option.some.injEq, Prod.mk.injEq, true_and, and_true, exists_eq_left', hp3.p12, hR.k8, hr3.2.2.1]
      exact ⟨fun g => absurd g (by omega), fun g => absurd g (by omega), fun _ => ⟨by omega, by omega, by omega, hq'⟩, fun g => absurd g (by omega), fun g => absurd g (by omega), fun g => absurd g (by omega), fun g => absurd g (by omega)⟩
    · refine main _ (by omega) (by omega) (fun H3 e3 u1 u2 u4 hp3 hr3 q' hq' => ?_)
      simp only [Int.toNat_natCast, Option.some.injEq, Prod.mk.injEq, true_and, and_true, exists_eq_left', hp3.p13, hR.k9, hr3.2.2.2.1]
      exact ⟨fun g => absurd g (by omega), fun g => absurd g (by omega), fun g => absurd g (by omega), fun _ => ⟨by omega, by omega, by omega, hq'⟩, fun g => absurd g (by omega), fun g => absurd g (by omega), fun g => absurd g (by omega)⟩
    · refine main _ (by omega) (by omega) (fun H3 e3 u1 u2 u4 hp3 hr3 q' hq' => ?_)
      simp only [Int.toNat_natCast, Option.some.injEq, Prod.mk.injEq, true_and, and_true, exists_eq_left', hp3.p14, hR.k10, hr3.2.2.2.2.1]
      exact ⟨fun g => absurd g (by omega), fun g => absurd g (by omega), fun g => absurd g (by omega), fun g => absurd g (by omega), fun _ => ⟨by omega, by omega, by omega, hq'⟩, fun g => absurd g (by omega), fun g => absurd g (by omega)⟩
    · refine main _ (by omega) (by omega) (fun H3 e3 u1 u2 u4 hp3 hr3 q' hq' => ⟨fun g => absurd g (by omega), fun g => absurd g (by omega), fun g => absurd g (by omega), fun g => absurd g (by omega), fun g => absurd g (by omega), fun _ => ?_, fun g => absurd g (by omega)⟩)
      refine sp_X12_greatest hR hp3 hi hr3 hf hB u1 ?_
      rw [sum_use6 u2 hr6, sumN_congr u4]
      exact hq'
    · refine main _ (by omega) (by omega) (fun H3 e3 u1 u2 u4 hp3 hr3 q' hq' => ⟨fun g => absurd g (by omega), fun g => absurd g (by omega), fun g => absurd g (by omega), fun g => absurd g (by omega), fun g => absurd g (by omega), fun g => absurd g (by omega), fun _ => ?_⟩)
      refine sp_X12_pulls hR hp3 u1 ?_
      rw [sum_use6 u2 hr6, sumN_congr u4]
      exact ⟨⟨by omega, by omega⟩, hq'⟩
    · have rr := rej 2 H1 e1
      refine eX12_told fun _ _ _ => bX12_told_0 (sp_X12_isSection ?_)
      rw [decide_eq_true ha]
      simp only [Int.toNat_natCast, Option.some.injEq, Prod.mk.injEq, true_and, and_true, exists_eq_left', hR.k0]
      exact ⟨fun _ => ⟨fun _ => ⟨by omega, rr⟩, fun g1 => ⟨fun g2 => absurd g (by omega), fun _ => ⟨by omega, rr⟩⟩⟩, fun g => absurd g (by decide)⟩
  · rw [decide_eq_false ha]
    refine ⟨fun g => absurd rfl g, fun _ => sp_X11_refuse hS.1 (fun H1 e1 => ?_)⟩
    have rr := rej 1 H1 e1
    refine eX12_told fun _ _ _ => bX12_told_0 (sp_X12_isSection ?_)
    rw [decide_eq_false ha]
    simp only [Int.toNat_natCast, Option.some.injEq, Prod.mk.injEq, true_and, and_true, exists_eq_left', hR.k0]
    exact ⟨fun g => absurd rfl g, fun _ => ⟨by omega, rr⟩⟩
/-- the reference ready to ask a section with its own strengths -/
theorem rf_told {H1 : Mem} {i nb nr : Nat} {s : Nat} {q' : Mem → Prop} (h : Inv K H X M) (hi : i < 4) (hs : s = X + 83 + 10 * i) (sI : SecI K H s nb nr) (sR : RSec H M i (H s 0) (H s 1) (H (s + 1)) (H (s + 2)) (H (s + 3)) nb (H (s + 4)) nr) (sS : ∀ r, r < nr → H (M + 13) (6 * i + r) = H (s + 5) r)
    (c : ∀ x, x ≠ X → ¬ (X + 24 ≤ x ∧ x ≤ X + 53) → ¬ (X + 69 ≤ x ∧ x ≤ X + 82) → H1 x = H x) (cX : H1 X = up1 (H X) 0 0) (hsc : ScrP K H1 X)
    (hq : ∀ H3, FC M [0, 14] H1 H3 → FO [0] (H1 M) (H3 M) → H3 M 0 = 0 → RefP (H3 M) M → StrB (H3 (M + 14)) 6 → UseZ (H3 (M + 14)) nr → (∀ r, r < nr → H3 (M + 14) r = H (s + 5) r) → RSec H3 M i (H s 0) (H s 1) (H (s + 1)) (H (s + 2)) (H (s + 3)) nb (H (s + 4)) nr → q' H3) : ∀ H2 : Mem, H2 = upA H1 M (up1 (H1 M) 0 0) → Cv mX12_asTold d [(2, (M : Int)), (0, (i : Int))] K H2 q' := by
  intro H2 e2
  have hM := h.1
  have hR := h.2.2.1
  have hRP := h.2.2.2.2.2.1
  have cM : H1 M = H M := c M (by omega) (by omega) (by omega)
  have c2 : ∀ x, x ≠ M → H2 x = H1 x := fun x hx => by rw [e2, upA_ne hx]
  have m2 : H2 M = up1 (H M) 0 0 := by rw [e2, upA_same, cM]
  have hp2 : RefP (H2 M) M := by rw [m2]; exact hRP.cong [0] rfl (FO.up rfl)
  have g2 : ∀ j, 0 < j → H2 (M + j) = H (M + j) := fun j hj => by rw [c2 _ (by omega), c _ (by omega) (by omega) (by omega)]
  have sR2 : RSec H2 M i (H s 0) (H s 1) (H (s + 1)) (H (s + 2)) (H (s + 3)) nb (H (s + 4)) nr := by
    unfold RSec at *
    rw [g2 6 (by omega), g2 7 (by omega), g2 8 (by omega), g2 9 (by omega), g2 10 (by omega), g2 11 (by omega), g2 12 (by omega)]
    exact sR
  have hr6 := sI.2.2.2.2.2.2.2.1.1
  refine sp_X12_asTold hR hp2 hi sR2.2.2.2.1 hr6 ?_
  intro H3 e3 u3
  rw [g2 13 (by omega)] at u3
  obtain ⟨u1, u2, u4⟩ := use_ok hr6 u3 sS sI.2.2.2.2.2.2.2.2.1
  have m3 : H3 M = H2 M := e3.self rfl
  refine hq H3 ?_ ?_ ?_ (by rw [m3]; exact hp2) u1 u2 u4 (sR2.keep e3 rfl rfl rfl rfl rfl rfl rfl)
  · rw [e2] at e3
    exact (FC.up0 (l := [0]) rfl).tr e3 rfl rfl
  · rw [m3, m2, cM]; exact FO.up rfl
  · rw [m3, m2, up1_same]
theorem ScrP.walk {H H' : Mem} (h : ScrP K H X) (e : ∀ x, x < X + 69 ∨ X + 72 < x → x ≠ X → H' x = H x) (hw : WkP (H' (X + 69)) (X + 69)) : ScrP K H' X := by
  obtain ⟨a1, a2, a3, a4, a5, a6, a7⟩ := h
  exact ⟨a1.cells (fun j hj => e _ (by omega) (by omega)), a2.cells (fun j hj => e _ (by omega) (by omega)), a3.cells (fun j hj => e _ (by omega) (by omega)), by rw [e _ (by omega) (by omega)]; exact a4, hw, by rw [e _ (by omega) (by omega)]; exact a6, by rw [e _ (by omega) (by omega)]; exact a7⟩
set_option maxHeartbeats 2000000 in
theorem sim_borne (h : Inv K H X M) (hq : ∀ r H', Inv K H' X M → q r r H') : Ci mX11_borne (d + 12) [(2, (X : Int)), (0, a), (0, b), (0, c)] K H (fun r H1 => Ci mX12_borne (d + 12) [(2, (M : Int)), (0, a), (0, b), (0, c)] K H1 (fun r' H2 => q r r' H2)) := by
  have hI := h
  obtain ⟨hM, hS, hR, hScr, hC, hRP, ⟨nb, nr, np, nz, nsp, ld, hH⟩, ho, hst⟩ := hI
  have rej : ∀ w : Int, ∀ H1, H1 = upA H X (up1 (H X) 0 w) → Ci mX12_refuse (d + 11) [(2, (M : Int)), (0, w)] K H1 (fun x H2 => q (-1) x H2) := fun w H1 e1 => sp_X12_refuse hR.k0 (fun H2 e2 => hq _ _ (h.stat e1 e2))
  refine eX11_borne fun _ _ _ _ => bX11_borne_0 ?_
  simp only [Int.toNat_natCast, Option.some.injEq, Prod.mk.injEq, true_and, and_true, exists_eq_left', hS.1]
  refine ⟨by omega, sp_X11_isSection ?_⟩
  by_cases ha : 0 ≤ a ∧ a ≤ 3
  · rw [decide_eq_true ha]
    refine ⟨fun _ => sp_X11_isNear ?_, fun g => absurd g (by decide)⟩
    by_cases hb : -1000000 ≤ b ∧ b ≤ 1000000
    · rw [decide_eq_true hb]
      refine ⟨fun g => absurd g (by decide), fun _ => sp_X11_isNear ?_⟩
      by_cases hc : -1000000 ≤ c ∧ c ≤ 1000000
      · rw [decide_eq_true hc]
        refine ⟨fun _ => ?_, fun g => absurd g (by decide)⟩
        obtain ⟨i, rfl⟩ : ∃ i : Nat, a = (i : Int) := ⟨a.toNat, by omega⟩
        have hi : i < 4 := by omega
        obtain ⟨⟨sI, sR, sS⟩, sB⟩ := hH.1 i hi
        have sI' := sI
        obtain ⟨hk, hp, hn, hr, hf, hz, hB, hRo, hS5, h2, hE⟩ := sI'
        simp only [Int.toNat_natCast, Option.some.injEq, Prod.mk.injEq, true_and, and_true, exists_eq_left', hC.1.2.1, hS.2.2.2.1, hC.2.2.1 i hi]
        refine ⟨by omega, by omega, by omega, sp_X11_bears hS.1 hC.1.2.2.2.2.2.1 sI hS.2.2.2.2.2.2.2.2.2.2.2.2.1 hScr.2.2.2.2.1 (by omega) hc ?_⟩
        intro G g0 g1
        have main : ∀ v : Int, v = bI (bearOf H (X + 83 + 10 * i) (nb i) (nr i) (H (X + 83 + 10 * i + 5)) b c) → Ci mX11_give (d + 11) [(2, (X : Int)), (0, v)] K G (fun x H1 => Ci mX12_borne (d + 12) [(2, (M : Int)), (0, (i : Int)), (0, b), (0, c)] K H1 (fun r' H2 => q x r' H2)) := by
          intro v hv
          refine sp_X11_give hS.1 (fun H1 e1 => ?_)
          have c1 : ∀ x, x ≠ X → (x < X + 69 ∨ X + 72 < x) → H1 x = H x := fun x hx h9 => by rw [e1, upA_ne hx, g0 x h9]
          have cX : H1 X = up1 (H X) 0 0 := by rw [e1, upA_same, g0 X (by omega)]
          have hsc : ScrP K H1 X := hScr.walk (fun x h9 hx => c1 x hx h9) (by rw [e1, upA_ne (by omega)]; exact g1)
          refine eX12_borne fun _ _ _ _ => bX12_borne_0 (sp_X12_isSection ?_)
          rw [decide_eq_true ha]
          refine ⟨fun _ => sp_X12_isNumber ?_, fun g => absurd g (by decide)⟩
          rw [decide_eq_true hb]
          refine ⟨fun g => absurd g (by decide), fun _ => sp_X12_isNumber ?_⟩
          rw [decide_eq_true hc]
          refine ⟨fun _ => ?_, fun g => absurd g (by decide)⟩
          simp only [Int.toNat_natCast, Option.some.injEq, Prod.mk.injEq, true_and, and_true, exists_eq_left', hR.k0]
          refine ⟨by omega, rf_told h hi rfl sI sR sS (fun x hx _ h9 => c1 x hx (by omega)) cX hsc ?_⟩
          intro H3 f1 f2 f3 f4 f5 f6 f7 f8
          refine sp_X12_bears hR f4 hi f8 hf hz hB hRo f5 f6 hc ?_
          intro H4 k1 k2
          rw [bearB_congr f7]
          have hi4 : Inv K H4 X M := h.ask2 (H1 := H1) (v := 0) (fun x hx _ h9 => c1 x hx (by omega)) cX hsc (f1.tr k1 rfl rfl) (f2.tr k2 rfl rfl) (by rw [k2 0 rfl, f3])
          have hqq := hq v H4 hi4
          unfold bearOf at hv
          cases hbb : bearB (H (X + 83 + 10 * i) 0) (H (X + 83 + 10 * i) 1) (H (X + 83 + 10 * i + 1)) (H (X + 83 + 10 * i + 2)) (H (X + 83 + 10 * i + 3)) (nb i) (H (X + 83 + 10 * i + 4)) (H (X + 83 + 10 * i + 5)) (nr i) b c with
          | true => rw [hbb] at hv; rw [hv] at hqq ⊢; exact ⟨fun g => absurd g (by decide), fun _ => hqq⟩
          | false => rw [hbb] at hv; rw [hv] at hqq ⊢; exact ⟨fun _ => hqq, fun g => absurd rfl g⟩
        cases hbb : bearOf H (X + 83 + 10 * i) (nb i) (nr i) (H (X + 83 + 10 * i + 5)) b c with
        | true => exact ⟨fun g => absurd g (by decide), fun _ => main 1 (by rw [hbb]; rfl)⟩
        | false => exact ⟨fun _ => main 0 (by rw [hbb]; rfl), fun g => absurd rfl g⟩
      · rw [decide_eq_false hc]
        refine ⟨fun g => absurd rfl g, fun _ => sp_X11_refuse hS.1 (fun H1 e1 => ?_)⟩
        have rr := rej 2 H1 e1
        refine eX12_borne fun _ _ _ _ => bX12_borne_0 (sp_X12_isSection ?_)
        rw [decide_eq_true ha]
        refine ⟨fun _ => sp_X12_isNumber ?_, fun g => absurd g (by decide)⟩
        rw [decide_eq_true hb]
        refine ⟨fun g => absurd g (by decide), fun _ => sp_X12_isNumber ?_⟩
        rw [decide_eq_false hc]
        simp only [Int.toNat_natCast, Option.some.injEq, Prod.mk.injEq, true_and, and_true, exists_eq_left', hR.k0]
        exact ⟨fun g => absurd rfl g, fun _ => ⟨by omega, rr⟩⟩
    · rw [decide_eq_false hb]
      refine ⟨fun _ => sp_X11_refuse hS.1 (fun H1 e1 => ?_), fun g => absurd rfl g⟩
      have rr := rej 2 H1 e1
      refine eX12_borne fun _ _ _ _ => bX12_borne_0 (sp_X12_isSection ?_)
      rw [decide_eq_true ha]
      refine ⟨fun _ => sp_X12_isNumber ?_, fun g => absurd g (by decide)⟩
      rw [decide_eq_false hb]
      simp only [Int.toNat_natCast, Option.some.injEq, Prod.mk.injEq, true_and, and_true, exists_eq_left', hR.k0]
      exact ⟨fun _ => ⟨by omega, rr⟩, fun g => absurd rfl g⟩
  · rw [decide_eq_false ha]
    refine ⟨fun g => absurd rfl g, fun _ => sp_X11_refuse hS.1 (fun H1 e1 => ?_)⟩
    have rr := rej 1 H1 e1
    refine eX12_borne fun _ _ _ _ => bX12_borne_0 (sp_X12_isSection ?_)
    rw [decide_eq_false ha]
    simp only [Int.toNat_natCast, Option.some.injEq, Prod.mk.injEq, true_and, and_true, exists_eq_left', hR.k0]
    exact ⟨fun g => absurd rfl g, fun _ => ⟨by omega, rr⟩⟩
theorem failF_congr {p p' : Nat → Bool} : ∀ (n i : Nat), (∀ k, i ≤ k → k < i + n → p k = p' k) → failF p i n = failF p' i n
  | 0, _, _ => rfl
  | n + 1, i, h => by
    simp only [failF]
    rw [h i (by omega) (by omega), failF_congr n (i + 1) (fun k h1 h2 => h k (by omega) (by omega))]
set_option maxHeartbeats 2000000 in
theorem sim_safe (h : Inv K H X M) (hq : ∀ r H', Inv K H' X M → q r r H') : Ci mX11_safe (d + 12) [(2, (X : Int)), (0, a)] K H (fun r H1 => Ci mX12_safe (d + 12) [(2, (M : Int)), (0, a)] K H1 (fun r' H2 => q r r' H2)) := by
  have hI := h
  obtain ⟨hM, hS, hR, hScr, hC, hRP, ⟨nb, nr, np, nz, nsp, ld, hH⟩, ho, hst⟩ := hI
  have rej : ∀ w : Int, ∀ H1, H1 = upA H X (up1 (H X) 0 w) → Ci mX12_refuse (d + 11) [(2, (M : Int)), (0, w)] K H1 (fun x H2 => q (-1) x H2) := fun w H1 e1 => sp_X12_refuse hR.k0 (fun H2 e2 => hq _ _ (h.stat e1 e2))
  obtain ⟨pr0, pr1, pr2, pr3⟩ := hH.2.1
  refine eX11_safe fun _ _ => bX11_safe_0 ?_
  simp only [Int.toNat_natCast, Option.some.injEq, Prod.mk.injEq, true_and, and_true, exists_eq_left', hS.1]
  refine ⟨by omega, sp_X11_isSection ?_⟩
  by_cases ha : 0 ≤ a ∧ a ≤ 3
  · rw [decide_eq_true ha]
    refine ⟨fun _ => ?_, fun g => absurd g (by decide)⟩
    obtain ⟨i, rfl⟩ : ∃ i : Nat, a = (i : Int) := ⟨a.toNat, by omega⟩
    have hi : i < 4 := by omega
    obtain ⟨⟨sI, sR, sS⟩, sB⟩ := hH.1 i hi
    have sI' := sI
    obtain ⟨hk, hp, hn, hr, hf, hz, hB, hRo, hS5, h2, hE⟩ := sI'
    have fin : ∀ (G : Mem) (v : Int), (∀ x, x < X + 69 ∨ X + 72 < x → G x = H x) → WkP (G (X + 69)) (X + 69) → v = failF (fun k => bearOf H (X + 83 + 10 * i) (nb i) (nr i) (H (X + 83 + 10 * i + 5)) (H (X + 16) k) (H (X + 17) k)) 0 np → Ci mX11_give (d + 11) [(2, (X : Int)), (0, v)] K G (fun x H1 => Ci mX12_safe (d + 12) [(2, (M : Int)), (0, (i : Int))] K H1 (fun r' H2 => q x r' H2)) := by
      intro G v g0 g1 hv
      refine sp_X11_give hS.1 (fun H1 e1 => ?_)
      have c1 : ∀ x, x ≠ X → (x < X + 69 ∨ X + 72 < x) → H1 x = H x := fun x hx h9 => by rw [e1, upA_ne hx, g0 x h9]
      have cX : H1 X = up1 (H X) 0 0 := by rw [e1, upA_same, g0 X (by omega)]
      have hsc : ScrP K H1 X := hScr.walk (fun x h9 hx => c1 x hx h9) (by rw [e1, upA_ne (by omega)]; exact g1)
      refine eX12_safe fun _ _ => bX12_safe_0 (sp_X12_isSection ?_)
      rw [decide_eq_true ha]
      refine ⟨fun _ => ?_, fun g => absurd g (by decide)⟩
      simp only [Int.toNat_natCast, Option.some.injEq, Prod.mk.injEq, true_and, and_true, exists_eq_left', hR.k0]
      refine ⟨by omega, rf_told h hi rfl sI sR sS (fun x hx _ h9 => c1 x hx (by omega)) cX hsc ?_⟩
      intro H3 f1 f2 f3 f4 f5 f6 f7 f8
      have w16 : H3 (M + 16) = H (M + 16) := by rw [f1.at 16 rfl, c1 _ (by omega) (by omega)]
      have w15 : H3 (M + 15) = H (M + 15) := by rw [f1.at 15 rfl, c1 _ (by omega) (by omega)]
      refine sp_X12_fails hR f4 hi f8 hf hz hB hRo f5 f6 (np := np) (by rw [f2 27 rfl, c1 _ (by omega) (by omega)]; exact pr2) pr1 (fun p hp => by rw [w16, (pr3 p hp).2.1]; exact (pr3 p hp).2.2.2) ?_
      intro H4 k1 k2
      have hi4 : Inv K H4 X M := h.ask2 (H1 := H1) (v := 0) (fun x hx _ h9 => c1 x hx (by omega)) cX hsc (f1.tr k1 rfl rfl) (f2.tr k2 rfl rfl) (by rw [k2 0 rfl, f3])
      have ev : failF (fun k => bearB (H (X + 83 + 10 * i) 0) (H (X + 83 + 10 * i) 1) (H (X + 83 + 10 * i + 1)) (H (X + 83 + 10 * i + 2)) (H (X + 83 + 10 * i + 3)) (nb i) (H (X + 83 + 10 * i + 4)) (H3 (M + 14)) (nr i) (H3 (M + 15) k) (H3 (M + 16) k)) 0 np = v := by
        rw [hv]
        refine failF_congr np 0 (fun k h1 h2 => ?_)
        show _ = bearB _ _ _ _ _ _ _ _ _ _ _
        rw [w15, w16, (pr3 k (by omega)).1, (pr3 k (by omega)).2.1, bearB_congr f7]
      rw [ev]
      exact hq v H4 hi4
    have loop : ∀ (n k : Nat), k + n = np → ∀ G : Mem, (∀ x, x < X + 69 ∨ X + 72 < x → G x = H x) → WkP (G (X + 69)) (X + 69) → failF (fun k => bearOf H (X + 83 + 10 * i) (nb i) (nr i) (H (X + 83 + 10 * i + 5)) (H (X + 16) k) (H (X + 17) k)) 0 np = failF (fun k => bearOf H (X + 83 + 10 * i) (nb i) (nr i) (H (X + 83 + 10 * i + 5)) (H (X + 16) k) (H (X + 17) k)) k n → FX11_safe_16 (d + 11) K G (fun r H1 => Ci mX12_safe (d + 12) [(2, (M : Int)), (0, (i : Int))] K H1 (fun r' H2 => q r r' H2)) (X : Int) (i : Int) (k : Int) := by
      intro n
      induction n with
      | zero =>
        intro k hkn G g0 g1 hv
        refine bX11_safe_16 ?_
        simp only [Int.toNat_natCast, Option.some.injEq, Prod.mk.injEq, true_and, and_true, exists_eq_left', hS.1, g0 X (by omega), hC.1.2.2.1, hS.2.2.2.2.1.1, g0 (X + 15) (by omega), pr0]
        exact ⟨by omega, by omega, fun _ => fin G (-2) g0 g1 (by rw [hv]; rfl), fun g => absurd g (by omega)⟩
      | succ n ih =>
        intro k hkn G g0 g1 hv
        have hIG : SecI K G (X + 83 + 10 * i) (nb i) (nr i) := sI.keepc (fun j hj => g0 _ (by omega))
        refine bX11_safe_16 ?_
        simp only [Int.toNat_natCast, Option.some.injEq, Prod.mk.injEq, true_and, and_true, exists_eq_left', hS.1, g0 X (by omega), hC.1.2.2.1, hS.2.2.2.2.1.1, g0 (X + 15) (by omega), pr0, hC.1.2.1, hS.2.2.2.1, g0 (X + 14) (by omega), hC.2.2.1 i hi, hC.2.2.2.1.1, hC.2.2.2.1.2, hS.2.2.2.2.1.2.1, hS.2.2.2.2.1.2.2, g0 (X + 16) (by omega), g0 (X + 17) (by omega)]
        refine ⟨by omega, by omega, fun g => absurd (by omega) g, fun _ => ⟨by omega, by omega, by omega, by omega, by omega, by omega, by omega, by omega, ?_⟩⟩
        refine sp_X11_bears hS.1 (by rw [g0 X (by omega)]; exact hC.1.2.2.2.2.2.1) hIG hS.2.2.2.2.2.2.2.2.2.2.2.2.1 g1 (by omega) (pr3 k (by omega)).2.2.2 ?_
        intro G2 g2 g3
        have ebe : bearOf G (X + 83 + 10 * i) (nb i) (nr i) (G (X + 83 + 10 * i + 5)) = bearOf H (X + 83 + 10 * i) (nb i) (nr i) (H (X + 83 + 10 * i + 5)) := by
          unfold bearOf
          rw [g0 (X + 83 + 10 * i) (by omega), g0 (X + 83 + 10 * i + 1) (by omega), g0 (X + 83 + 10 * i + 2) (by omega), g0 (X + 83 + 10 * i + 3) (by omega), g0 (X + 83 + 10 * i + 4) (by omega), g0 (X + 83 + 10 * i + 5) (by omega)]
        rw [ebe]
        simp only [failF] at hv
        have k2 : ∀ x, x < X + 69 ∨ X + 72 < x → G2 x = H x := fun x hx => (g2 x hx).trans (g0 x hx)
        cases hbb : bearOf H (X + 83 + 10 * i) (nb i) (nr i) (H (X + 83 + 10 * i + 5)) (H (X + 16) k) (H (X + 17) k) with
        | true =>
          rw [if_pos hbb] at hv
          exact ⟨fun _ => ⟨⟨by omega, by omega⟩, ih (k + 1) (by omega) G2 k2 g3 hv⟩, fun g => absurd g (by decide)⟩
        | false =>
          rw [if_neg (by rw [hbb]; decide)] at hv
          exact ⟨fun g => absurd rfl g, fun _ => fin G2 (k : Int) k2 g3 hv.symm⟩
    exact loop np 0 (by omega) H (fun _ _ => rfl) hScr.2.2.2.2.1 rfl
  · rw [decide_eq_false ha]
    refine ⟨fun g => absurd rfl g, fun _ => sp_X11_refuse hS.1 (fun H1 e1 => ?_)⟩
    have rr := rej 1 H1 e1
    refine eX12_safe fun _ _ => bX12_safe_0 (sp_X12_isSection ?_)
    rw [decide_eq_false ha]
    simp only [Int.toNat_natCast, Option.some.injEq, Prod.mk.injEq, true_and, and_true, exists_eq_left', hR.k0]
    exact ⟨fun g => absurd rfl g, fun _ => ⟨by omega, rr⟩⟩
end S4
