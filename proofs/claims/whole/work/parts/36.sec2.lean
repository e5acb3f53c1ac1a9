/-! RodBeam$Section: findEdges and what calls it -/
theorem isE_iff {bf bt rh : Nat → Int} {nb nr : Nat} {y : Int} : isE bf bt nb rh nr y = true ↔ (y = 0 ∨ y = 100) ∨ (∃ b, b < nb ∧ (bf b = y ∨ bt b = y)) ∨ ∃ r, r < nr ∧ rh r = y := by
  unfold isE
  rw [Bool.or_eq_true, Bool.or_eq_true, Bool.or_eq_true, decide_eq_true_eq, decide_eq_true_eq, anyF_iff, anyF_iff]
  constructor
  · rintro ((h | ⟨j, -, h2, h3⟩) | ⟨j, -, h2, h3⟩)
    · exact Or.inl h
    · exact Or.inr (Or.inl ⟨j, by omega, by simpa using h3⟩)
    · exact Or.inr (Or.inr ⟨j, by omega, by simpa using h3⟩)
  · rintro (h | ⟨j, h2, h3⟩ | ⟨j, h2, h3⟩)
    · exact Or.inl (Or.inl h)
    · exact Or.inl (Or.inr ⟨j, by omega, by omega, by simpa using h3⟩)
    · exact Or.inr ⟨j, by omega, by omega, by simpa using h3⟩
section Cnt
variable {bf bt rh : Nat → Int} {nb nr : Nat}
theorem cnt_succ (y : Nat) : cntE bf bt nb rh nr (y + 1) = cntE bf bt nb rh nr y + (if isE bf bt nb rh nr (y : Int) = true then 1 else 0) := rfl
theorem cnt_mono {y : Nat} : ∀ (n : Nat), cntE bf bt nb rh nr y ≤ cntE bf bt nb rh nr (y + n)
  | 0 => Nat.le_refl _
  | n + 1 => by
    have := cnt_mono (y := y) n
    rw [← Nat.add_assoc, cnt_succ]
    omega
theorem cnt_le {y z : Nat} (h : y ≤ z) : cntE bf bt nb rh nr y ≤ cntE bf bt nb rh nr z := by
  have := cnt_mono (bf := bf) (bt := bt) (rh := rh) (nb := nb) (nr := nr) (y := y) (z - y)
  rwa [show y + (z - y) = z by omega] at this
theorem cnt_lt {y z : Nat} (h : y < z) (he : isE bf bt nb rh nr (y : Int) = true) : cntE bf bt nb rh nr y < cntE bf bt nb rh nr z := by
  have h1 := cnt_le (bf := bf) (bt := bt) (rh := rh) (nb := nb) (nr := nr) (show y + 1 ≤ z from h)
  rw [cnt_succ, if_pos he] at h1
  omega
theorem isE_100 : isE bf bt nb rh nr ((100 : Nat) : Int) = true := isE_iff.mpr (Or.inl (Or.inr rfl))
theorem isE_0 : isE bf bt nb rh nr ((0 : Nat) : Int) = true := isE_iff.mpr (Or.inl (Or.inl rfl))
def capE (bf bt : Nat → Int) (nb : Nat) (rh : Nat → Int) (nr : Nat) (n : Int) : Int :=
  (if 0 < n then 1 else 0) + (if 100 < n then 1 else 0) + sumN (fun b => (if bf b < n then 1 else 0) + (if bt b < n then 1 else 0)) nb + sumN (fun r => if rh r < n then 1 else 0) nr
theorem cap_step (n : Int) : capE bf bt nb rh nr n + (if isE bf bt nb rh nr n = true then 1 else 0) ≤ capE bf bt nb rh nr (n + 1) := by
  unfold capE
  have m1 : ∀ c : Int, (if c < n then (1 : Int) else 0) ≤ (if c < n + 1 then 1 else 0) := by
    intro c; split <;> split <;> omega
  have m2 : ∀ j, j < nb → (fun b => (if bf b < n then (1 : Int) else 0) + (if bt b < n then 1 else 0)) j ≤ (fun b => (if bf b < n + 1 then (1 : Int) else 0) + (if bt b < n + 1 then 1 else 0)) j := fun j _ => by
    have := m1 (bf j)
    have := m1 (bt j)
    show _ + _ ≤ _ + _
    omega
  have m3 : ∀ j, j < nr → (fun r => (if rh r < n then (1 : Int) else 0)) j ≤ (fun r => (if rh r < n + 1 then (1 : Int) else 0)) j := fun j _ => m1 (rh j)
  have s2 := sumN_le m2
  have s3 := sumN_le m3
  have s0 := m1 0
  have s1 := m1 100
  have st : ∀ c : Int, c = n → (if c < n then (1 : Int) else 0) + 1 ≤ (if c < n + 1 then 1 else 0) := by
    intro c h; rw [if_neg (by omega), if_pos (by omega)]; omega
  by_cases h : isE bf bt nb rh nr n = true
  · rw [if_pos h]
    rcases isE_iff.mp h with (h | h) | ⟨b, hb, h⟩ | ⟨r, hr, h⟩
    · have := st 0 h.symm; omega
    · have := st 100 h.symm; omega
    · have := sumN_lt hb m2 (by
        have a1 := m1 (bf b)
        have a2 := m1 (bt b)
        rcases h with h | h
        · have a3 := st (bf b) h
          show _ + _ + 1 ≤ _ + _
          omega
        · have a3 := st (bt b) h
          show _ + _ + 1 ≤ _ + _
          omega)
      omega
    · have := sumN_lt hr m3 (st (rh r) h)
      omega
  · rw [if_neg h]
    omega
theorem cnt_cap (h0 : ∀ b, b < nb → 0 ≤ bf b ∧ 0 ≤ bt b) (h1 : ∀ r, r < nr → 0 ≤ rh r) : ∀ n : Nat, (cntE bf bt nb rh nr n : Int) ≤ capE bf bt nb rh nr n
  | 0 => by
    have e2 : sumN (fun b => (if bf b < ((0 : Nat) : Int) then (1 : Int) else 0) + (if bt b < ((0 : Nat) : Int) then 1 else 0)) nb = 0 := sumN_zero (fun j hj => by
      have := h0 j hj
      rw [if_neg (by omega), if_neg (by omega)]; rfl)
    have e3 : sumN (fun r => if rh r < ((0 : Nat) : Int) then (1 : Int) else 0) nr = 0 := sumN_zero (fun j hj => by
      have := h1 j hj
      rw [if_neg (by omega)])
    unfold capE
    rw [e2, e3]
    simp [cntE]
  | n + 1 => by
    have h2 := cnt_cap h0 h1 n
    have h3 := cap_step (bf := bf) (bt := bt) (rh := rh) (nb := nb) (nr := nr) (n : Int)
    rw [cnt_succ]
    have e : ((n + 1 : Nat) : Int) = (n : Int) + 1 := by omega
    rw [e]
    by_cases h : isE bf bt nb rh nr (n : Int) = true
    · rw [if_pos h] at h3 ⊢; omega
    · rw [if_neg h] at h3 ⊢; omega
theorem cnt_24 (h8 : nb ≤ 8) (h6 : nr ≤ 6) (h0 : ∀ b, b < nb → 0 ≤ bf b ∧ 0 ≤ bt b) (h1 : ∀ r, r < nr → 0 ≤ rh r) : cntE bf bt nb rh nr 101 ≤ 24 := by
  have h2 := cnt_cap h0 h1 101
  have h3 := sumN_bd (n := nb) (c := 2) (g := fun b => (if bf b < ((101 : Nat) : Int) then (1 : Int) else 0) + (if bt b < ((101 : Nat) : Int) then 1 else 0)) (fun j _ => by
    show 0 ≤ _ + _ ∧ _ + _ ≤ _
    split <;> split <;> omega)
  have h4 := sumN_bd (n := nr) (c := 1) (g := fun r => if rh r < ((101 : Nat) : Int) then (1 : Int) else 0) (fun j _ => by
    show 0 ≤ (if rh j < ((101 : Nat) : Int) then (1 : Int) else 0) ∧ (if rh j < ((101 : Nat) : Int) then (1 : Int) else 0) ≤ 1
    split <;> omega)
  unfold capE at h2
  rw [if_pos (by omega), if_pos (by omega)] at h2
  omega
end Cnt
/-- the edges as findEdges leaves them -/
def EdgeOk (f : Int) (bw bf bt : Nat → Int) (nb : Nat) (rh : Nat → Int) (nr : Nat) (E : Int) (fe fd fr : Nat → Int) : Prop :=
  E = (cntE bf bt nb rh nr 101 : Int) ∧ (∀ y : Nat, y ≤ 100 → isE bf bt nb rh nr (y : Int) = true → fe (cntE bf bt nb rh nr y) = (y : Int) ∧ fd (cntE bf bt nb rh nr y) = f * wAt bw bf bt nb (y : Int)) ∧ ∀ r, r < nr → fr r = (cntE bf bt nb rh nr (rh r).toNat : Int)
theorem SecP.cong {g g' : Nat → Int} {s : Nat} (h : SecP g s) (e : ∀ k, 4 ≤ k → k ≠ 7 → k ≠ 10 → k ≠ 14 → k ≠ 15 → k ≠ 16 → g' k = g k) : SecP g' s := by
  obtain ⟨p4, p5, p6, p8, p9, p11, p12, p13, p17⟩ := h
  refine ⟨?_, ?_, ?_, ?_, ?_, ?_, ?_, ?_, ?_⟩ <;> (rw [e _ (by decide) (by decide) (by decide) (by decide) (by decide) (by decide)]; assumption)
theorem mul_bd {a b A B : Int} (h1 : 0 ≤ a) (h2 : a ≤ A) (h3 : 0 ≤ b) (h4 : b ≤ B) : 0 ≤ a * b ∧ a * b ≤ A * B := ⟨Int.mul_nonneg h1 h3, Int.mul_le_mul h2 h4 h3 (by omega)⟩
set_option maxHeartbeats 1000000 in
theorem sp_X4_findEdges {d : Nat} {K : Shp} {H : Mem} {s nb nr : Nat} {q : Mem → Prop} (hk : SecS K s) (hp : SecP (H s) s) (hn : H s 3 = (nb : Int)) (hr : H s 7 = (nr : Int)) (hf : 1 ≤ H s 0 ∧ H s 0 ≤ 50) (hB : BandB (H (s + 1)) (H (s + 2)) (H (s + 3)) nb) (hR : RodB (H (s + 4)) nr)
    (hq : ∀ H', (∀ x, x ≠ s → x ≠ s + 6 → x ≠ s + 7 → x ≠ s + 8 → H' x = H x) → (∀ k, k ≠ 2 → k ≠ 10 → k ≠ 14 → H' s k = H s k) → H' s 2 = H s 0 * areaF (H (s + 1)) (H (s + 2)) (H (s + 3)) nb → H' s 14 = 0 → EdgeOk (H s 0) (H (s + 1)) (H (s + 2)) (H (s + 3)) nb (H (s + 4)) nr (H' s 10) (H' (s + 6)) (H' (s + 7)) (H' (s + 8)) → q H') : Cv mX4_findEdges (d + 1) [(2, (s : Int))] K H q := by
  have hk' := hk
  obtain ⟨k0, k1, k2, k3, k4, k5, k6, k7, k8, k9⟩ := hk'
  have h24 := cnt_24 hB.1 hR.1 (bf := H (s + 2)) (bt := H (s + 3)) (rh := H (s + 4)) (fun b hb => by have := hB.2 b hb; omega) (fun r hr => (hR.2 r hr).1)
  have h100 : cntE (H (s + 2)) (H (s + 3)) nb (H (s + 4)) nr 101 = cntE (H (s + 2)) (H (s + 3)) nb (H (s + 4)) nr 100 + 1 := by rw [cnt_succ, if_pos isE_100]
  refine eX4_findEdges fun _ => bX4_findEdges_0 ?_
  simp only [Int.toNat_natCast, Option.some.injEq, Prod.mk.injEq, true_and, and_true, exists_eq_left', k0]
  refine ⟨by omega, fun H3 e3 => ?_⟩
  have a0 : ∀ x, x ≠ s → H3 x = H x := fun x hx => by rw [e3, upA_ne hx]
  have a1 : ∀ k, k ≠ 14 → H3 s k = H s k := fun k hx => by rw [e3, upA_same, up1_ne hx]
  have a2 : H3 s 14 = 0 := by rw [e3, upA_same, up1_same]
  refine sp_X4_area (nb := nb) hk (hp.cong (fun k _ _ _ h _ _ => a1 k h)) ((a1 3 (by decide)).trans hn) (by rw [a0 (s + 1) (by omega), a0 (s + 2) (by omega), a0 (s + 3) (by omega)]; exact hB) ?_
  rw [a0 (s + 1) (by omega), a0 (s + 2) (by omega), a0 (s + 3) (by omega), a1 0 (by decide)]
  have hab := area_bd hB nb (Nat.le_refl _)
  have hb8 := hB.1
  have hab2 := mul_bd (show 0 ≤ H s 0 by omega) hf.2 hab.1 (show areaF (H (s + 1)) (H (s + 2)) (H (s + 3)) nb ≤ 80000 by omega)
  refine ⟨⟨by omega, by omega⟩, fun H7 e7 H8 e8 => ?_⟩
  have loop : ∀ (n y : Nat), y + n = 101 → ∀ G : Mem, (∀ x, x ≠ s → x ≠ s + 6 → x ≠ s + 7 → x ≠ s + 8 → G x = H x) → (∀ k, k ≠ 2 → k ≠ 10 → k ≠ 14 → G s k = H s k) → G s 2 = H s 0 * areaF (H (s + 1)) (H (s + 2)) (H (s + 3)) nb → G s 14 = 0 → G s 10 = (cntE (H (s + 2)) (H (s + 3)) nb (H (s + 4)) nr y : Int) →
      (∀ y' : Nat, y' < y → isE (H (s + 2)) (H (s + 3)) nb (H (s + 4)) nr (y' : Int) = true → G (s + 6) (cntE (H (s + 2)) (H (s + 3)) nb (H (s + 4)) nr y') = (y' : Int) ∧ G (s + 7) (cntE (H (s + 2)) (H (s + 3)) nb (H (s + 4)) nr y') = H s 0 * wAt (H (s + 1)) (H (s + 2)) (H (s + 3)) nb (y' : Int)) →
      (∀ r, r < nr → H (s + 4) r < (y : Int) → G (s + 8) r = (cntE (H (s + 2)) (H (s + 3)) nb (H (s + 4)) nr (H (s + 4) r).toNat : Int)) → FX4_findEdges_25 d K G q (s : Int) (y : Int) := by
    intro n
    induction n with
    | zero =>
      intro y hy G h1 h2 h3 h4 h5 h6 h7
      have e : y = 101 := by omega
      subst e
      refine bX4_findEdges_25 ⟨fun _ => hq G h1 h2 h3 h4 ⟨h5, fun y' h => h6 y' (by omega), fun r hr => h7 r hr (by have := hR.2 r hr; omega)⟩, fun h => absurd h (by omega)⟩
    | succ n ih =>
      intro y hy G h1 h2 h3 h4 h5 h6 h7
      have hcy := cnt_le (bf := H (s + 2)) (bt := H (s + 3)) (rh := H (s + 4)) (nb := nb) (nr := nr) (show y ≤ 100 by omega)
      have g1 := h1 (s + 1) (by omega) (by omega) (by omega) (by omega)
      have g2 := h1 (s + 2) (by omega) (by omega) (by omega) (by omega)
      have g3 := h1 (s + 3) (by omega) (by omega) (by omega) (by omega)
      have g4 := h1 (s + 4) (by omega) (by omega) (by omega) (by omega)
      have hpG : SecP (G s) s := hp.cong (fun k hk _ h10 h14 _ _ => h2 k (by omega) h10 h14)
      have hpG' := hpG
      obtain ⟨p4, p5, p6, p8, p9, p11, p12, p13, p17⟩ := hpG'
      refine bX4_findEdges_25 ⟨fun h => absurd (by omega) h, fun _ => ?_⟩
      simp only [Int.toNat_natCast, Option.some.injEq, Prod.mk.injEq, true_and, and_true, exists_eq_left', k0, h5]
      refine ⟨by omega, fun h => absurd (by omega) h, fun _ => ?_⟩
      refine sp_X4_isEdge (nb := nb) (nr := nr) hk hpG ((h2 3 (by decide) (by decide) (by decide)).trans hn) ((h2 7 (by decide) (by decide) (by decide)).trans hr) hB.1 hR.1 ?_
      rw [g2, g3, g4]
      have hsy := cnt_succ (bf := H (s + 2)) (bt := H (s + 3)) (rh := H (s + 4)) (nb := nb) (nr := nr) y
      cases hI : isE (H (s + 2)) (H (s + 3)) nb (H (s + 4)) nr (y : Int) with
      | false =>
        rw [hI] at hsy
        refine ⟨fun _ => ⟨⟨by omega, by omega⟩, ih (y + 1) (by omega) G h1 h2 h3 h4 ?_ ?_ ?_⟩, fun h => absurd rfl h⟩
        · rw [h5, hsy]; rfl
        · intro y' hy' he
          by_cases e : y' = y
          · subst e; rw [hI] at he; cases he
          · exact h6 y' (by omega) he
        · intro r hr' hlt
          refine h7 r hr' ?_
          rcases Int.lt_or_le (H (s + 4) r) (y : Int) with h | h
          · exact h
          · exfalso
            have e : H (s + 4) r = (y : Int) := by omega
            have : isE (H (s + 2)) (H (s + 3)) nb (H (s + 4)) nr (y : Int) = true := isE_iff.mpr (Or.inr (Or.inr ⟨r, hr', e⟩))
            rw [hI] at this
            cases this
      | true =>
        rw [hI, if_pos rfl] at hsy
        refine ⟨fun h => absurd h (by decide), fun _ => ?_⟩
        simp only [Int.toNat_natCast, Option.some.injEq, Prod.mk.injEq, true_and, and_true, exists_eq_left', p11, h5, k6]
        refine ⟨by omega, by omega, by omega, fun G1 eG1 => ?_⟩
        have b0 : ∀ x, x ≠ s + 6 → G1 x = G x := fun x hx => by rw [eG1, upA_ne hx]
        have b6 : G1 (s + 6) = up1 (G (s + 6)) (cntE (H (s + 2)) (H (s + 3)) nb (H (s + 4)) nr y) (y : Int) := by rw [eG1, upA_same]
        have bs := b0 s (by omega)
        refine sp_X4_widthAbove (nb := nb) hk (by rw [bs]; exact hpG) (by rw [bs]; exact (h2 3 (by decide) (by decide) (by decide)).trans hn) (by rw [b0 (s + 1) (by omega), b0 (s + 2) (by omega), b0 (s + 3) (by omega), g1, g2, g3]; exact hB) ?_
        rw [b0 (s + 1) (by omega), b0 (s + 2) (by omega), b0 (s + 3) (by omega), g1, g2, g3]
        have hwb := wAt_bd hB (y : Int) nb (Nat.le_refl _)
        have e0 : G s 0 = H s 0 := h2 0 (by decide) (by decide) (by decide)
        have hwb2 := mul_bd (show 0 ≤ H s 0 by omega) hf.2 hwb.1 (show wAt (H (s + 1)) (H (s + 2)) (H (s + 3)) nb (y : Int) ≤ 800 by omega)
        simp only [Int.toNat_natCast, Option.some.injEq, Prod.mk.injEq, true_and, and_true, exists_eq_left', bs, e0, p12, h5, k7]
        refine ⟨⟨by omega, by omega⟩, by omega, by omega, by omega, fun G2 eG2 => ?_⟩
        have c0 : ∀ x, x ≠ s + 7 → G2 x = G1 x := fun x hx => by rw [eG2, upA_ne hx]
        have c7 : G2 (s + 7) = up1 (G (s + 7)) (cntE (H (s + 2)) (H (s + 3)) nb (H (s + 4)) nr y) (H s 0 * wAt (H (s + 1)) (H (s + 2)) (H (s + 3)) nb (y : Int)) := by rw [eG2, upA_same, b0 (s + 7) (by omega)]
        have cs : G2 s = G s := (c0 s (by omega)).trans bs
        simp only [Int.toNat_natCast, Option.some.injEq, Prod.mk.injEq, true_and, and_true, exists_eq_left', cs, h5]
        refine sp_X4_placeRods (nr := nr) hk (by rw [cs]; exact hpG) (by rw [cs]; exact (h2 7 (by decide) (by decide) (by decide)).trans hr) hR.1 ?_
        intro G3 d0 d8
        have ds : G3 s = G s := (d0 s (by omega)).trans cs
        simp only [Int.toNat_natCast, Option.some.injEq, Prod.mk.injEq, true_and, and_true, exists_eq_left', ds, h5]
        refine ⟨⟨by omega, by omega⟩, fun G4 eG4 => ⟨⟨by omega, by omega⟩, ?_⟩⟩
        have f0 : ∀ x, x ≠ s → G4 x = G3 x := fun x hx => by rw [eG4, upA_ne hx]
        have fs : G4 s = up1 (G s) 10 ((cntE (H (s + 2)) (H (s + 3)) nb (H (s + 4)) nr y : Int) + 1) := by rw [eG4, upA_same]
        refine ih (y + 1) (by omega) G4 ?_ ?_ ?_ ?_ ?_ ?_ ?_
        · intro x x1 x2 x3 x4
          rw [f0 x x1, d0 x x4, c0 x x3, b0 x x2, h1 x x1 x2 x3 x4]
        · intro k k1 k2 k3
          rw [fs, up1_ne k2, h2 k k1 k2 k3]
        · rw [fs, up1_ne (by decide), h3]
        · rw [fs, up1_ne (by decide), h4]
        · rw [fs, up1_same, hsy]; rfl
        · intro y' hy' he
          rw [f0 (s + 6) (by omega), d0 (s + 6) (by omega), c0 (s + 6) (by omega), b6, f0 (s + 7) (by omega), d0 (s + 7) (by omega), c7]
          by_cases e : y' = y
          · subst e; rw [up1_same, up1_same]; exact ⟨rfl, rfl⟩
          · have hl := cnt_lt (show y' < y by omega) he
            rw [up1_ne (by omega), up1_ne (by omega)]
            exact h6 y' (by omega) he
        · intro r hr' hlt
          rw [f0 (s + 8) (by omega), d8 r hr', c0 (s + 4) (by omega), b0 (s + 4) (by omega), g4, c0 (s + 8) (by omega), b0 (s + 8) (by omega)]
          by_cases e : H (s + 4) r = (y : Int)
          · rw [if_pos e, e, Int.toNat_natCast]
          · rw [if_neg e]; exact h7 r hr' (by omega)
  refine loop 101 0 (by omega) H8 ?_ ?_ ?_ ?_ ?_ ?_ ?_
  · intro x x1 _ _ _
    rw [e8, upA_ne x1, e7, upA_ne x1, a0 x x1]
  · intro k k1 k2 k3
    rw [e8, upA_same, up1_ne k2, e7, upA_same, up1_ne k1, a1 k k3]
  · rw [e8, upA_same, up1_ne (by decide), e7, upA_same, up1_same]
  · rw [e8, upA_same, up1_ne (by decide), e7, upA_same, up1_ne (by decide), a2]
  · rw [e8, upA_same, up1_same]; rfl
  · intro y' hy'; omega
  · intro r hr' hlt
    have := hR.2 r hr'
    omega
/-- all that a section keeps -/
def SecI (K : Shp) (H : Mem) (s nb nr : Nat) : Prop := SecS K s ∧ SecP (H s) s ∧ H s 3 = (nb : Int) ∧ H s 7 = (nr : Int) ∧ (1 ≤ H s 0 ∧ H s 0 ≤ 50) ∧ (0 ≤ H s 1 ∧ H s 1 ≤ 100) ∧ BandB (H (s + 1)) (H (s + 2)) (H (s + 3)) nb ∧ RodB (H (s + 4)) nr ∧ StrB (H (s + 5)) nr ∧ H s 2 = H s 0 * areaF (H (s + 1)) (H (s + 2)) (H (s + 3)) nb ∧ EdgeOk (H s 0) (H (s + 1)) (H (s + 2)) (H (s + 3)) nb (H (s + 4)) nr (H s 10) (H (s + 6)) (H (s + 7)) (H (s + 8))
theorem sp_X4_begin {d : Nat} {K : Shp} {H : Mem} {s : Nat} {q : Mem → Prop} {f z : Int} (hk : SecS K s) (hp : SecP (H s) s) (hf : 1 ≤ f ∧ f ≤ 50) (hz : 0 ≤ z ∧ z ≤ 100)
    (hq : ∀ H', (∀ x, x ≠ s → x ≠ s + 6 → x ≠ s + 7 → x ≠ s + 8 → H' x = H x) → SecI K H' s 0 0 → H' s 0 = f → H' s 1 = z → H' s 14 = 0 → (∀ k, 14 < k → H' s k = H s k) → q H') : Cv mX4_begin (d + 2) [(2, (s : Int)), (0, f), (0, z)] K H q := by
  refine eX4_begin fun _ _ _ => bX4_begin_0 ?_
  simp only [Int.toNat_natCast, Option.some.injEq, Prod.mk.injEq, true_and, and_true, exists_eq_left', hk.1]
  refine ⟨by omega, fun H3 e3 H4 e4 H5 e5 H6 e6 => ?_⟩
  have a0 : ∀ x, x ≠ s → H6 x = H x := fun x hx => by rw [e6, upA_ne hx, e5, upA_ne hx, e4, upA_ne hx, e3, upA_ne hx]
  have as : H6 s = up1 (up1 (up1 (up1 (H s) 0 f) 1 z) 3 0) 7 0 := by rw [e6, upA_same, e5, upA_same, e4, upA_same, e3, upA_same]
  have ak : ∀ k, k ≠ 0 → k ≠ 1 → k ≠ 3 → k ≠ 7 → H6 s k = H s k := fun k h0 h1 h3 h7 => by rw [as, up1_ne h7, up1_ne h3, up1_ne h1, up1_ne h0]
  have b0 : H6 s 0 = f := by rw [as]; simp [up1]
  have b1 : H6 s 1 = z := by rw [as]; simp [up1]
  have b3 : H6 s 3 = 0 := by rw [as]; simp [up1]
  have b7 : H6 s 7 = 0 := by rw [as]; simp [up1]
  have hp6 : SecP (H6 s) s := hp.cong (fun k h4 h7 _ _ _ _ => ak k (by omega) (by omega) (by omega) h7)
  have hB0 : ∀ bw bf bt : Nat → Int, BandB bw bf bt 0 := fun _ _ _ => ⟨by omega, fun b hb => absurd hb (by omega)⟩
  have hR0 : ∀ rh : Nat → Int, RodB rh 0 := fun _ => ⟨by omega, fun b hb => absurd hb (by omega)⟩
  refine sp_X4_findEdges (nb := 0) (nr := 0) hk hp6 b3 b7 (by rw [b0]; exact hf) (hB0 _ _ _) (hR0 _) ?_
  intro H' c1 c2 c3 c4 c5
  have d0 : H' s 0 = f := (c2 0 (by decide) (by decide) (by decide)).trans b0
  have d1 : H' s 1 = z := (c2 1 (by decide) (by decide) (by decide)).trans b1
  refine hq H' (fun x x1 x2 x3 x4 => (c1 x x1 x2 x3 x4).trans (a0 x x1)) ?_ d0 d1 c4 (fun k hk => (c2 k (by omega) (by omega) (by omega)).trans (ak k (by omega) (by omega) (by omega) (by omega)))
  have e1 := c1 (s + 1) (by omega) (by omega) (by omega) (by omega)
  have e2 := c1 (s + 2) (by omega) (by omega) (by omega) (by omega)
  have e3 := c1 (s + 3) (by omega) (by omega) (by omega) (by omega)
  have e4 := c1 (s + 4) (by omega) (by omega) (by omega) (by omega)
  refine ⟨hk, hp6.cong (fun k h4 _ h10 h14 _ _ => c2 k (by omega) h10 h14), (c2 3 (by decide) (by decide) (by decide)).trans b3, (c2 7 (by decide) (by decide) (by decide)).trans b7, by rw [d0]; exact hf, by rw [d1]; exact hz, hB0 _ _ _, hR0 _, fun r hr => absurd hr (by omega), ?_, ?_⟩
  · rw [c3, d0, b0, e1, e2, e3]
  · rw [e1, e2, e3, e4, d0, ← b0]; exact c5
theorem up1_lt {f : Nat → Int} {k j : Nat} {x : Int} (h : j < k) : up1 f k x j = f j := up1_ne (by omega)
theorem sp_X4_addBand {d : Nat} {K : Shp} {H : Mem} {s nb nr : Nat} {q : Int → Mem → Prop} {w f t : Int} (hI : SecI K H s nb nr) (h8 : nb < 8) (hw : 1 ≤ w ∧ w ≤ 100 ∧ 0 ≤ f ∧ f < t ∧ t ≤ 100)
    (hq : ∀ H', (∀ x, x ≠ s → x ≠ s + 1 → x ≠ s + 2 → x ≠ s + 3 → x ≠ s + 6 → x ≠ s + 7 → x ≠ s + 8 → H' x = H x) → SecI K H' s (nb + 1) nr → (∀ k, k ≠ 2 → k ≠ 3 → k ≠ 10 → k ≠ 14 → H' s k = H s k) → H' s 14 = 0 → H' (s + 1) = up1 (H (s + 1)) nb w → H' (s + 2) = up1 (H (s + 2)) nb f → H' (s + 3) = up1 (H (s + 3)) nb t → q (nb : Int) H') : Ci mX4_addBand (d + 2) [(2, (s : Int)), (0, w), (0, f), (0, t)] K H q := by
  obtain ⟨hk, hp, hn, hr, hf, hz, hB, hR, hS, h2, hE⟩ := hI
  have hk' := hk
  obtain ⟨k0, k1, k2, k3, k4, k5, k6, k7, k8, k9⟩ := hk'
  have hp' := hp
  obtain ⟨p4, p5, p6, p8, p9, p11, p12, p13, p17⟩ := hp'
  refine eX4_addBand fun _ _ _ _ => bX4_addBand_0 ?_
  simp only [Int.toNat_natCast, Option.some.injEq, Prod.mk.injEq, true_and, and_true, exists_eq_left', hn, p4, k0, k1]
  refine ⟨by omega, by omega, by omega, by omega, fun H8 e8 => ?_⟩
  have a8 : ∀ x, x ≠ s + 1 → H8 x = H x := fun x hx => by rw [e8, upA_ne hx]
  simp only [Int.toNat_natCast, Option.some.injEq, Prod.mk.injEq, true_and, and_true, exists_eq_left', a8 s (by omega), hn, p5, k2]
  refine ⟨by omega, by omega, by omega, fun H14 e14 => ?_⟩
  have a14 : ∀ x, x ≠ s + 2 → H14 x = H8 x := fun x hx => by rw [e14, upA_ne hx]
  have s14 : H14 s = H s := (a14 s (by omega)).trans (a8 s (by omega))
  simp only [Int.toNat_natCast, Option.some.injEq, Prod.mk.injEq, true_and, and_true, exists_eq_left', s14, hn, p6, k3]
  refine ⟨by omega, by omega, by omega, fun H20 e20 => ?_⟩
  have a20 : ∀ x, x ≠ s + 3 → H20 x = H14 x := fun x hx => by rw [e20, upA_ne hx]
  have s20 : H20 s = H s := (a20 s (by omega)).trans s14
  simp only [Int.toNat_natCast, Option.some.injEq, Prod.mk.injEq, true_and, and_true, exists_eq_left', s20, hn]
  refine ⟨⟨by omega, by omega⟩, fun H22 e22 => ?_⟩
  have a22 : ∀ x, x ≠ s → H22 x = H20 x := fun x hx => by rw [e22, upA_ne hx]
  have s22 : H22 s = up1 (H s) 3 ((nb : Int) + 1) := by rw [e22, upA_same]
  have b1 : H22 (s + 1) = up1 (H (s + 1)) nb w := by rw [a22 _ (by omega), a20 _ (by omega), a14 _ (by omega), e8, upA_same]
  have b2 : H22 (s + 2) = up1 (H (s + 2)) nb f := by rw [a22 _ (by omega), a20 _ (by omega), e14, upA_same, a8 _ (by omega)]
  have b3 : H22 (s + 3) = up1 (H (s + 3)) nb t := by rw [a22 _ (by omega), e20, upA_same, a14 _ (by omega), a8 _ (by omega)]
  have bo : ∀ x, x ≠ s → x ≠ s + 1 → x ≠ s + 2 → x ≠ s + 3 → H22 x = H x := fun x x0 x1 x2 x3 => by rw [a22 x x0, a20 x x3, a14 x x2, a8 x x1]
  have sk : ∀ k, k ≠ 3 → H22 s k = H s k := fun k h => by rw [s22, up1_ne h]
  have n3 : H22 s 3 = ((nb + 1 : Nat) : Int) := by rw [s22, up1_same]; rfl
  have hB' : BandB (H22 (s + 1)) (H22 (s + 2)) (H22 (s + 3)) (nb + 1) := by
    refine ⟨by omega, fun b hb => ?_⟩
    rw [b1, b2, b3]
    by_cases e : b = nb
    · subst e; rw [up1_same, up1_same, up1_same]; exact hw
    · rw [up1_ne e, up1_ne e, up1_ne e]; exact hB.2 b (by omega)
  have hpp : SecP (H22 s) s := hp.cong (fun k h4 _ _ _ _ _ => sk k (by omega))
  refine sp_X4_findEdges (nb := nb + 1) (nr := nr) hk hpp n3 ((sk 7 (by decide)).trans hr) (by rw [sk 0 (by decide)]; exact hf) hB' (by rw [bo (s + 4) (by omega) (by omega) (by omega) (by omega)]; exact hR) ?_
  intro H' c1 c2 c3 c4 c5
  have d1 := c1 (s + 1) (by omega) (by omega) (by omega) (by omega)
  have d2 := c1 (s + 2) (by omega) (by omega) (by omega) (by omega)
  have d3 := c1 (s + 3) (by omega) (by omega) (by omega) (by omega)
  have d4 := c1 (s + 4) (by omega) (by omega) (by omega) (by omega)
  have d5 := c1 (s + 5) (by omega) (by omega) (by omega) (by omega)
  have f3 : H' s 3 = ((nb + 1 : Nat) : Int) := (c2 3 (by decide) (by decide) (by decide)).trans n3
  have ck : ∀ k, k ≠ 2 → k ≠ 3 → k ≠ 10 → k ≠ 14 → H' s k = H s k := fun k k1 k2 k3 k4 => (c2 k k1 k3 k4).trans (sk k k2)
  rw [f3]
  have en : ((nb + 1 : Nat) : Int) - 1 = (nb : Int) := by omega
  rw [en]
  refine ⟨⟨by omega, by omega⟩, hq H' (fun x x0 x1 x2 x3 x6 x7 x8 => (c1 x x0 x6 x7 x8).trans (bo x x0 x1 x2 x3)) ?_ ck c4 (d1.trans b1) (d2.trans b2) (d3.trans b3)⟩
  have z0 := ck 0 (by decide) (by decide) (by decide) (by decide)
  have y0 := sk 0 (by decide)
  refine ⟨hk, hpp.cong (fun k h4 _ h10 h14 _ _ => c2 k (by omega) h10 h14), f3, (ck 7 (by decide) (by decide) (by decide) (by decide)).trans hr, by rw [z0]; exact hf, by rw [ck 1 (by decide) (by decide) (by decide) (by decide)]; exact hz, by rw [d1, d2, d3]; exact hB', by rw [d4, bo (s + 4) (by omega) (by omega) (by omega) (by omega)]; exact hR, by rw [d5, bo (s + 5) (by omega) (by omega) (by omega) (by omega)]; exact hS, ?_, ?_⟩
  · rw [c3, z0, y0, d1, d2, d3]
  · rw [d1, d2, d3, d4, z0, ← y0]; exact c5
theorem sp_X4_addRod {d : Nat} {K : Shp} {H : Mem} {s nb nr : Nat} {q : Int → Mem → Prop} {h u : Int} (hI : SecI K H s nb nr) (h6 : nr < 6) (hh : 0 ≤ h ∧ h ≤ 100) (hu : 0 ≤ u ∧ u ≤ 200)
    (hq : ∀ H', (∀ x, x ≠ s → x ≠ s + 4 → x ≠ s + 5 → x ≠ s + 6 → x ≠ s + 7 → x ≠ s + 8 → H' x = H x) → SecI K H' s nb (nr + 1) → (∀ k, k ≠ 2 → k ≠ 7 → k ≠ 10 → k ≠ 14 → H' s k = H s k) → H' s 14 = 0 → H' (s + 4) = up1 (H (s + 4)) nr h → H' (s + 5) = up1 (H (s + 5)) nr u → q (nr : Int) H') : Ci mX4_addRod (d + 2) [(2, (s : Int)), (0, h), (0, u)] K H q := by
  obtain ⟨hk, hp, hn, hr, hf, hz, hB, hR, hS, h2, hE⟩ := hI
  have hk' := hk
  obtain ⟨k0, k1, k2, k3, k4, k5, k6, k7, k8, k9⟩ := hk'
  have hp' := hp
  obtain ⟨p4, p5, p6, p8, p9, p11, p12, p13, p17⟩ := hp'
  refine eX4_addRod fun _ _ _ => bX4_addRod_0 ?_
  simp only [Int.toNat_natCast, Option.some.injEq, Prod.mk.injEq, true_and, and_true, exists_eq_left', hr, p8, k0, k4]
  refine ⟨by omega, by omega, by omega, by omega, fun H8 e8 => ?_⟩
  have a8 : ∀ x, x ≠ s + 4 → H8 x = H x := fun x hx => by rw [e8, upA_ne hx]
  simp only [Int.toNat_natCast, Option.some.injEq, Prod.mk.injEq, true_and, and_true, exists_eq_left', a8 s (by omega), hr, p9, k5]
  refine ⟨by omega, by omega, by omega, fun H14 e14 => ?_⟩
  have a14 : ∀ x, x ≠ s + 5 → H14 x = H8 x := fun x hx => by rw [e14, upA_ne hx]
  have s14 : H14 s = H s := (a14 s (by omega)).trans (a8 s (by omega))
  simp only [Int.toNat_natCast, Option.some.injEq, Prod.mk.injEq, true_and, and_true, exists_eq_left', s14, hr]
  refine ⟨⟨by omega, by omega⟩, fun H22 e22 => ?_⟩
  have a22 : ∀ x, x ≠ s → H22 x = H14 x := fun x hx => by rw [e22, upA_ne hx]
  have s22 : H22 s = up1 (H s) 7 ((nr : Int) + 1) := by rw [e22, upA_same]
  have b4 : H22 (s + 4) = up1 (H (s + 4)) nr h := by rw [a22 _ (by omega), a14 _ (by omega), e8, upA_same]
  have b5 : H22 (s + 5) = up1 (H (s + 5)) nr u := by rw [a22 _ (by omega), e14, upA_same, a8 _ (by omega)]
  have bo : ∀ x, x ≠ s → x ≠ s + 4 → x ≠ s + 5 → H22 x = H x := fun x x0 x1 x2 => by rw [a22 x x0, a14 x x2, a8 x x1]
  have sk : ∀ k, k ≠ 7 → H22 s k = H s k := fun k h => by rw [s22, up1_ne h]
  have n7 : H22 s 7 = ((nr + 1 : Nat) : Int) := by rw [s22, up1_same]; rfl
  have hR' : RodB (H22 (s + 4)) (nr + 1) := by
    refine ⟨by omega, fun b hb => ?_⟩
    rw [b4]
    by_cases e : b = nr
    · subst e; rw [up1_same]; exact hh
    · rw [up1_ne e]; exact hR.2 b (by omega)
  have hS' : StrB (H22 (s + 5)) (nr + 1) := by
    intro b hb
    rw [b5]
    by_cases e : b = nr
    · subst e; rw [up1_same]; exact hu
    · rw [up1_ne e]; exact hS b (by omega)
  have o1 := bo (s + 1) (by omega) (by omega) (by omega)
  have o2 := bo (s + 2) (by omega) (by omega) (by omega)
  have o3 := bo (s + 3) (by omega) (by omega) (by omega)
  have hpp : SecP (H22 s) s := hp.cong (fun k h4 h7 _ _ _ _ => sk k h7)
  refine sp_X4_findEdges (nb := nb) (nr := nr + 1) hk hpp ((sk 3 (by decide)).trans hn) n7 (by rw [sk 0 (by decide)]; exact hf) (by rw [o1, o2, o3]; exact hB) hR' ?_
  intro H' c1 c2 c3 c4 c5
  have d1 := c1 (s + 1) (by omega) (by omega) (by omega) (by omega)
  have d2 := c1 (s + 2) (by omega) (by omega) (by omega) (by omega)
  have d3 := c1 (s + 3) (by omega) (by omega) (by omega) (by omega)
  have d4 := c1 (s + 4) (by omega) (by omega) (by omega) (by omega)
  have d5 := c1 (s + 5) (by omega) (by omega) (by omega) (by omega)
  have f7 : H' s 7 = ((nr + 1 : Nat) : Int) := (c2 7 (by decide) (by decide) (by decide)).trans n7
  have ck : ∀ k, k ≠ 2 → k ≠ 7 → k ≠ 10 → k ≠ 14 → H' s k = H s k := fun k k1 k2 k3 k4 => (c2 k k1 k3 k4).trans (sk k k2)
  rw [f7]
  have en : ((nr + 1 : Nat) : Int) - 1 = (nr : Int) := by omega
  rw [en]
  refine ⟨⟨by omega, by omega⟩, hq H' (fun x x0 x1 x2 x6 x7 x8 => (c1 x x0 x6 x7 x8).trans (bo x x0 x1 x2)) ?_ ck c4 (d4.trans b4) (d5.trans b5)⟩
  have z0 := ck 0 (by decide) (by decide) (by decide) (by decide)
  have y0 := sk 0 (by decide)
  refine ⟨hk, hpp.cong (fun k h4 _ h10 h14 _ _ => c2 k (by omega) h10 h14), (ck 3 (by decide) (by decide) (by decide) (by decide)).trans hn, f7, by rw [z0]; exact hf, by rw [ck 1 (by decide) (by decide) (by decide) (by decide)]; exact hz, by rw [d1, d2, d3, o1, o2, o3]; exact hB, by rw [d4]; exact hR', by rw [d5]; exact hS', ?_, ?_⟩
  · rw [c3, z0, y0, d1, d2, d3]
  · rw [d1, d2, d3, d4, z0, ← y0]; exact c5
