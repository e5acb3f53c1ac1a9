/-! the two side by side: status, out, stone -/
theorem FC.ne {M : Nat} {l : List Nat} {H H' : Mem} (h : FC M l H H') {x : Nat} (hx : ∀ j, l.contains j = true → x ≠ M + j) : H' x = H x := h x hx
section Sims1
variable {d : Nat} {K : Shp} {H : Mem} {X M : Nat} {q : Int → Int → Mem → Prop} {a b c e : Int}
theorem sim_status (h : Inv K H X M) (hq : ∀ r H', Inv K H' X M → q r r H') : Ci mX11_status d [(2, (X : Int))] K H (fun r H1 => Ci mX12_status d [(2, (M : Int))] K H1 (fun r' H2 => q r r' H2)) := by
  refine eX11_status fun _ => bX11_status_0 ?_
  simp only [Int.toNat_natCast, Option.some.injEq, Prod.mk.injEq, true_and, and_true, exists_eq_left', h.2.1.1]
  refine ⟨by omega, eX12_status fun _ => bX12_status_0 ?_⟩
  simp only [Int.toNat_natCast, Option.some.injEq, Prod.mk.injEq, true_and, and_true, exists_eq_left', h.2.2.1.k0]
  refine ⟨by omega, ?_⟩
  rw [← h.2.2.2.2.2.2.2.2]
  exact hq _ _ h
theorem sim_out (h : Inv K H X M) (hq : ∀ r H', Inv K H' X M → q r r H') : Ci mX11_out d [(2, (X : Int)), (0, a)] K H (fun r H1 => Ci mX12_out d [(2, (M : Int)), (0, a)] K H1 (fun r' H2 => q r r' H2)) := by
  have hI := h
  obtain ⟨hM, hS, hR, hScr, hC, hRP, -, ho, hst⟩ := hI
  refine eX11_out fun _ _ => bX11_out_0 ⟨fun h0 => ?_, fun h0 => ?_⟩
  · exact eX12_out fun _ _ => bX12_out_0 ⟨fun _ => hq _ _ h, fun g => absurd h0 g⟩
  · simp only [Int.toNat_natCast, Option.some.injEq, Prod.mk.injEq, true_and, and_true, exists_eq_left', hS.1, hC.1.1, hS.2.1, hC.2.1.1, hS.2.2.1]
    refine ⟨by omega, by omega, fun h1 => ?_, fun h1 => ⟨by omega, by omega, by have := ho.2.1.2; omega, ?_⟩⟩
    · refine eX12_out fun _ _ => bX12_out_0 ⟨fun g => absurd g h0, fun _ => ?_⟩
      simp only [Int.toNat_natCast, Option.some.injEq, Prod.mk.injEq, true_and, and_true, exists_eq_left', hR.k0, ho.1]
      exact ⟨by omega, fun _ => hq _ _ h, fun g => absurd g h1⟩
    · refine eX12_out fun _ _ => bX12_out_0 ⟨fun g => absurd g h0, fun _ => ?_⟩
      have e1 := ho.2.2 a.toNat (by omega)
      have e2 := ho.2.1.2
      simp only [Int.toNat_natCast, Option.some.injEq, Prod.mk.injEq, true_and, and_true, exists_eq_left', hR.k0, ho.1, hRP.p8, hR.k5, e1]
      exact ⟨by omega, fun g => absurd h1 g, fun _ => ⟨by omega, by omega, by omega, hq _ _ h⟩⟩
end Sims1
theorem rf_stone {d : Nat} {K : Shp} {H : Mem} {M i : Nat} {q : Int → Mem → Prop} {b c : Int} (hk : RefS K M) (hp : RefP (H M) M) (hi : i < 4) (hb : 1 ≤ b ∧ b ≤ 50) (hc : 0 ≤ c ∧ c ≤ 100)
    (hq : ∀ H', FC M [0, 6, 7, 8, 9, 10, 11] H H' → FO [0] (H M) (H' M) → H' M 0 = 0 → H' (M + 6) = up1 (H (M + 6)) i b → H' (M + 7) = up1 (H (M + 7)) i c → H' (M + 8) = up1 (H (M + 8)) i 0 → H' (M + 9) = up1 (H (M + 9)) i 0 → H' (M + 10) = up1 (H (M + 10)) i 0 → (∀ y, y < 100 → H' (M + 11) (100 * i + y) = 0) → (∀ j, j < 100 * i ∨ 100 * i + 100 ≤ j → H' (M + 11) j = H (M + 11) j) → q 1 H') : Ci mX12_stone (d + 1) [(2, (M : Int)), (0, (i : Int)), (0, b), (0, c)] K H q := by
  refine eX12_stone fun _ _ _ _ => bX12_stone_0 (sp_X12_isSection ?_)
  rw [decide_eq_true (show 0 ≤ (i : Int) ∧ (i : Int) ≤ 3 by omega)]
  refine ⟨fun _ => ⟨fun g => absurd g (by omega), fun _ => ⟨fun g => absurd hb.2 g, fun _ => ⟨fun g => absurd g (by omega), fun _ => ⟨fun _ => ?_, fun g => absurd hc.2 g⟩⟩⟩⟩, fun g => absurd g (by decide)⟩
  simp only [Int.toNat_natCast, Option.some.injEq, Prod.mk.injEq, true_and, and_true, exists_eq_left', hk.k0, hp.p10, hk.k6]
  refine ⟨by omega, by omega, by omega, by omega, fun H1 e1 => ?_⟩
  have c1 : ∀ x, x ≠ M + 6 → H1 x = H x := fun x hx => by rw [e1, upA_ne hx]
  simp only [Int.toNat_natCast, Option.some.injEq, Prod.mk.injEq, true_and, and_true, exists_eq_left', c1 M (by omega), hp.p11, hk.k7]
  refine ⟨by omega, by omega, fun H2 e2 => ?_⟩
  have c2 : ∀ x, x ≠ M + 7 → H2 x = H1 x := fun x hx => by rw [e2, upA_ne hx]
  have m2 : H2 M = H M := (c2 M (by omega)).trans (c1 M (by omega))
  simp only [Int.toNat_natCast, Option.some.injEq, Prod.mk.injEq, true_and, and_true, exists_eq_left', m2, hp.p12, hk.k8]
  refine ⟨by omega, by omega, fun H3 e3 => ?_⟩
  have c3 : ∀ x, x ≠ M + 8 → H3 x = H2 x := fun x hx => by rw [e3, upA_ne hx]
  have m3 : H3 M = H M := (c3 M (by omega)).trans m2
  simp only [Int.toNat_natCast, Option.some.injEq, Prod.mk.injEq, true_and, and_true, exists_eq_left', m3, hp.p13, hk.k9]
  refine ⟨by omega, by omega, fun H4 e4 => ?_⟩
  have c4 : ∀ x, x ≠ M + 9 → H4 x = H3 x := fun x hx => by rw [e4, upA_ne hx]
  have m4 : H4 M = H M := (c4 M (by omega)).trans m3
  simp only [Int.toNat_natCast, Option.some.injEq, Prod.mk.injEq, true_and, and_true, exists_eq_left', m4, hp.p14, hk.k10]
  refine ⟨by omega, by omega, fun H5 e5 => ?_⟩
  have c5 : ∀ x, x ≠ M + 10 → H5 x = H4 x := fun x hx => by rw [e5, upA_ne hx]
  have m5 : H5 M = H M := (c5 M (by omega)).trans m4
  have f5 : ∀ x, x ≠ M + 6 → x ≠ M + 7 → x ≠ M + 8 → x ≠ M + 9 → x ≠ M + 10 → H5 x = H x := fun x x6 x7 x8 x9 x10 => by rw [c5 x x10, c4 x x9, c3 x x8, c2 x x7, c1 x x6]
  have v6 : H5 (M + 6) = up1 (H (M + 6)) i b := by rw [c5 _ (by omega), c4 _ (by omega), c3 _ (by omega), c2 _ (by omega), e1, upA_same]
  have v7 : H5 (M + 7) = up1 (H (M + 7)) i c := by rw [c5 _ (by omega), c4 _ (by omega), c3 _ (by omega), e2, upA_same, c1 _ (by omega)]
  have v8 : H5 (M + 8) = up1 (H (M + 8)) i 0 := by rw [c5 _ (by omega), c4 _ (by omega), e3, upA_same, c2 _ (by omega), c1 _ (by omega)]
  have v9 : H5 (M + 9) = up1 (H (M + 9)) i 0 := by rw [c5 _ (by omega), e4, upA_same, c3 _ (by omega), c2 _ (by omega), c1 _ (by omega)]
  have v10 : H5 (M + 10) = up1 (H (M + 10)) i 0 := by rw [e5, upA_same, c4 _ (by omega), c3 _ (by omega), c2 _ (by omega), c1 _ (by omega)]
  have loop : ∀ (n y : Nat), y + n = 100 → ∀ G : Mem, (∀ x, x ≠ M + 11 → G x = H5 x) → (∀ y', y' < y → G (M + 11) (100 * i + y') = 0) → (∀ j, j < 100 * i ∨ 100 * i + 100 ≤ j → G (M + 11) j = H (M + 11) j) → FX12_stone_78 d K G q (M : Int) (i : Int) (y : Int) := by
    intro n
    induction n with
    | zero =>
      intro y hy G g1 g2 g3
      have gM := (g1 M (by omega)).trans m5
      refine bX12_stone_78 ⟨fun _ => ?_, fun g => absurd g (by omega)⟩
      simp only [Int.toNat_natCast, Option.some.injEq, Prod.mk.injEq, true_and, and_true, exists_eq_left', hk.k0]
      refine ⟨by omega, sp_X12_is1 hk.k0 (fun H' e' => ⟨Or.inr rfl, ?_⟩)⟩
      have k1 : ∀ x, x ≠ M → H' x = G x := fun x hx => by rw [e', upA_ne hx]
      have kM : H' M = up1 (H M) 0 0 := by rw [e', upA_same, gM]
      have k2 : ∀ x, x ≠ M → x ≠ M + 11 → H' x = H5 x := fun x x1 x2 => (k1 x x1).trans (g1 x x2)
      refine hq H' ?_ ?_ ?_ ?_ ?_ ?_ ?_ ?_ ?_ ?_
      · intro x hx
        have z := fun j (hj : j = 0 ∨ j = 6 ∨ j = 7 ∨ j = 8 ∨ j = 9 ∨ j = 10 ∨ j = 11) => hx j (by rcases hj with rfl | rfl | rfl | rfl | rfl | rfl | rfl <;> rfl)
        have z0 := z 0 (by omega)
        have z6 := z 6 (by omega)
        have z7 := z 7 (by omega)
        have z8 := z 8 (by omega)
        have z9 := z 9 (by omega)
        have z10 := z 10 (by omega)
        have z11 := z 11 (by omega)
        rw [k2 x (by omega) (by omega), f5 x (by omega) (by omega) (by omega) (by omega) (by omega)]
      · rw [kM]; exact FO.up rfl
      · rw [kM, up1_same]
      · rw [k2 _ (by omega) (by omega), v6]
      · rw [k2 _ (by omega) (by omega), v7]
      · rw [k2 _ (by omega) (by omega), v8]
      · rw [k2 _ (by omega) (by omega), v9]
      · rw [k2 _ (by omega) (by omega), v10]
      · intro y' hy'; rw [k1 _ (by omega)]; exact g2 y' (by omega)
      · intro j hj; rw [k1 _ (by omega)]; exact g3 j hj
    | succ n ih =>
      intro y hy G g1 g2 g3
      have gM := (g1 M (by omega)).trans m5
      have e100 : (100 * (i : Int) + (y : Int)).toNat = 100 * i + y := by omega
      refine bX12_stone_78 ⟨fun g => absurd (by omega) g, fun _ => ?_⟩
      simp only [Int.toNat_natCast, Option.some.injEq, Prod.mk.injEq, true_and, and_true, exists_eq_left', hk.k0, gM, hp.p15, hk.k11, e100]
      refine ⟨by omega, ⟨by omega, by omega⟩, ⟨by omega, by omega⟩, by omega, by omega, by omega, fun H' e' => ⟨⟨by omega, by omega⟩, ?_⟩⟩
      refine ih (y + 1) (by omega) H' (fun x hx => by rw [e', upA_ne hx, g1 x hx]) (fun y' hy' => ?_) (fun j hj => ?_)
      · rw [e', upA_same]
        by_cases ey : y' = y
        · subst ey; rw [up1_same]
        · rw [up1_ne (by omega)]; exact g2 y' (by omega)
      · rw [e', upA_same, up1_ne (by omega)]; exact g3 j hj
  exact loop 100 0 (by omega) H5 (fun _ _ => rfl) (fun y' hy' => absurd hy' (by omega)) (fun j _ => by rw [f5 _ (by omega) (by omega) (by omega) (by omega) (by omega)])
theorem wAt_zero {bw bf bt : Nat → Int} {y : Int} : wAt bw bf bt 0 y = 0 := rfl
set_option maxHeartbeats 2000000 in
theorem sim_stone {d : Nat} {K : Shp} {H : Mem} {X M : Nat} {q : Int → Int → Mem → Prop} {a b c : Int} (h : Inv K H X M) (hq : ∀ r H', Inv K H' X M → q r r H') : Ci mX11_stone (d + 12) [(2, (X : Int)), (0, a), (0, b), (0, c)] K H (fun r H1 => Ci mX12_stone (d + 12) [(2, (M : Int)), (0, a), (0, b), (0, c)] K H1 (fun r' H2 => q r r' H2)) := by
  have hI := h
  obtain ⟨hM, hS, hR, hScr, hC, hRP, ⟨nb, nr, np, nz, nsp, ld, hH⟩, ho, hst⟩ := hI
  have rej : ∀ w : Int, w ≠ 0 → ∀ H1, H1 = upA H X (up1 (H X) 0 w) → Ci mX12_is (d + 11) [(2, (M : Int)), (0, w)] K H1 (fun x H2 => (x = 0 ∨ x = 1) ∧ q 0 x H2) := fun w hw H1 e1 => sp_X12_is0 hR.k0 hw (fun H2 e2 => ⟨Or.inl rfl, hq _ _ (h.stat e1 e2)⟩)
  refine eX11_stone fun _ _ _ _ => bX11_stone_0 ?_
  simp only [Int.toNat_natCast, Option.some.injEq, Prod.mk.injEq, true_and, and_true, exists_eq_left', hS.1]
  refine ⟨by omega, sp_X11_isSection ?_⟩
  by_cases ha : 0 ≤ a ∧ a ≤ 3
  · rw [decide_eq_true ha]
    have rf2 : ¬ ((1 ≤ b ∧ b ≤ 50) ∧ (0 ≤ c ∧ c ≤ 100)) → ∀ H1, H1 = upA H X (up1 (H X) 0 2) → Ci mX12_stone (d + 12) [(2, (M : Int)), (0, a), (0, b), (0, c)] K H1 (fun r' H2 => q 0 r' H2) := by
      intro hne H1 e1
      have rr := rej 2 (by decide) H1 e1
      refine eX12_stone fun _ _ _ _ => bX12_stone_0 (sp_X12_isSection ?_)
      rw [decide_eq_true ha]
      simp only [Int.toNat_natCast, Option.some.injEq, Prod.mk.injEq, true_and, and_true, exists_eq_left', hR.k0]
      exact ⟨fun _ => ⟨fun g => ⟨by omega, rr⟩, fun g1 => ⟨fun g => ⟨by omega, rr⟩, fun g2 => ⟨fun g => ⟨by omega, rr⟩, fun g3 => ⟨fun g4 => absurd ⟨⟨by omega, g2⟩, by omega, g4⟩ hne, fun g => ⟨by omega, rr⟩⟩⟩⟩⟩, fun g => absurd g (by decide)⟩
    refine ⟨fun _ => sp_X11_isFromTo ?_, fun g => absurd g (by decide)⟩
    by_cases hb : 1 ≤ b ∧ b ≤ 50
    · rw [decide_eq_true hb]
      refine ⟨fun g => absurd g (by decide), fun _ => sp_X11_isFromTo ?_⟩
      by_cases hc : 0 ≤ c ∧ c ≤ 100
      · rw [decide_eq_true hc]
        refine ⟨fun _ => ?_, fun g => absurd g (by decide)⟩
        obtain ⟨i, rfl⟩ : ∃ i : Nat, a = (i : Int) := ⟨a.toNat, by omega⟩
        have hi : i < 4 := by omega
        obtain ⟨⟨sI, sR, sS⟩, sB⟩ := hH.1 i hi
        simp only [Int.toNat_natCast, Option.some.injEq, Prod.mk.injEq, true_and, and_true, exists_eq_left', hC.1.2.1, hS.2.2.2.1, hC.2.2.1 i hi, sI.1.1]
        refine ⟨by omega, by omega, by omega, by omega, sp_X4_begin sI.1 sI.2.1 hb hc ?_⟩
        intro G g1 g2 g3 g4 g5 g6
        refine sp_X11_allow hS.1 (fun H1 e1 => ⟨Or.inr rfl, ?_⟩)
        have c1 : ∀ x, x ≠ X → H1 x = G x := fun x hx => by rw [e1, upA_ne hx]
        have cX : H1 X = up1 (H X) 0 0 := by rw [e1, upA_same, g1 X (by omega) (by omega) (by omega) (by omega)]
        have cM : H1 M = H M := by rw [c1 M (by omega), g1 M (by omega) (by omega) (by omega) (by omega)]
        refine rf_stone hR (by rw [cM]; exact hRP) hi hb hc ?_
        intro H2 f1 f2 f3 f4 f5 f6 f7 f8 f9 f10
        have lo : ∀ x, x < M → H2 x = H1 x := fun x hx => f1.lt hx
        refine hq _ _ (h.sec hi ?_ ?_ ?_ ?_ ?_ ?_ ?_ ?_ ?_)
        · intro x k hk n1 n2
          by_cases xM : x = M
          · subst xM
            rw [f2 k (by unfold keepP at hk; simp; omega), cM]
          · by_cases xX : x = X
            · subst xX
              rw [lo _ (by omega), cX, up1_ne (by unfold keepP at hk; omega)]
            · rw [f1.ne (x := x) (fun j hj => by simp at hj; omega), c1 x xX, g1 x (by omega) (by omega) (by omega) (by omega)]
        · intro u j u1 u2 hj hne
          have hu : u = 6 ∨ u = 7 ∨ u = 8 ∨ u = 9 ∨ u = 10 := by omega
          have gg : ∀ u, 0 < u → H1 (M + u) = H (M + u) := fun u hu => by rw [c1 _ (by omega), g1 _ (by omega) (by omega) (by omega) (by omega)]
          rcases hu with rfl | rfl | rfl | rfl | rfl
          · rw [f4, up1_ne hne, gg 6 (by omega)]
          · rw [f5, up1_ne hne, gg 7 (by omega)]
          · rw [f6, up1_ne hne, gg 8 (by omega)]
          · rw [f7, up1_ne hne, gg 9 (by omega)]
          · rw [f8, up1_ne hne, gg 10 (by omega)]
        · intro j y hne hy
          rw [f10 _ (by omega), c1 _ (by omega), g1 _ (by omega) (by omega) (by omega) (by omega)]
        · intro j r hne hr
          rw [f1.at 12 rfl, c1 _ (by omega), g1 _ (by omega) (by omega) (by omega) (by omega)]
        · intro j r hne hr
          rw [f1.at 13 rfl, c1 _ (by omega), g1 _ (by omega) (by omega) (by omega) (by omega)]
        · intro nb2 nr2 np2 nz2 nsp2 ld2 hH2
          have sg : ∀ j, j < 10 → H2 (X + 83 + 10 * i + j) = G (X + 83 + 10 * i + j) := fun j hj => by rw [lo _ (by omega), c1 _ (by omega)]
          have s0 := sg 0 (by omega)
          rw [Nat.add_zero] at s0
          refine ⟨0, 0, ⟨g2.keepc sg, ?_, fun r hr => absurd hr (by omega)⟩, Or.inl (by rw [s0]; exact g5)⟩
          refine ⟨?_, ?_, ?_, ?_, ?_, ?_, fun r hr => absurd hr (by omega)⟩
          · rw [f4, up1_same, s0, g3]
          · rw [f5, up1_same, s0, g4]
          · rw [f6, up1_same]; rfl
          · rw [f7, up1_same]; rfl
          · rw [f8, up1_same]; rfl
          · intro y hy; rw [f9 y hy]; rfl
        · exact hScr.cells (fun x hx => by rw [lo x (by omega), c1 x (by omega), g1 x (by omega) (by omega) (by omega) (by omega)])
        · refine ho.keep ?_ ?_ ?_ ?_
          · rw [lo _ (by omega), c1 _ (by omega), g1 _ (by omega) (by omega) (by omega) (by omega)]
          · rw [lo _ (by omega), c1 _ (by omega), g1 _ (by omega) (by omega) (by omega) (by omega)]
          · rw [f1.at 5 rfl, c1 _ (by omega), g1 _ (by omega) (by omega) (by omega) (by omega)]
          · rw [f2 9 rfl, cM]
        · rw [f3, lo X (by omega), cX, up1_same]
      · rw [decide_eq_false hc]
        exact ⟨fun g => absurd rfl g, fun _ => sp_X11_deny hS.1 (fun H1 e1 => ⟨Or.inl rfl, rf2 (fun g => hc g.2) H1 e1⟩)⟩
    · rw [decide_eq_false hb]
      exact ⟨fun _ => sp_X11_deny hS.1 (fun H1 e1 => ⟨Or.inl rfl, rf2 (fun g => hb g.1) H1 e1⟩), fun g => absurd rfl g⟩
  · rw [decide_eq_false ha]
    refine ⟨fun g => absurd rfl g, fun _ => sp_X11_deny hS.1 (fun H1 e1 => ⟨Or.inl rfl, ?_⟩)⟩
    have rr := rej 1 (by decide) H1 e1
    refine eX12_stone fun _ _ _ _ => bX12_stone_0 (sp_X12_isSection ?_)
    rw [decide_eq_false ha]
    simp only [Int.toNat_natCast, Option.some.injEq, Prod.mk.injEq, true_and, and_true, exists_eq_left', hR.k0]
    exact ⟨fun g => absurd rfl g, fun _ => ⟨by omega, rr⟩⟩
