/-! RodBeam$Beam: reckon, whole -/
def timT (S D T1 C1 T2 C2 L x : Int) : Int := (S * L * C1 + T1 * (L - x) * D) * C2 + T2 * x * (D * C1)
/-- an equation that omega does not look into -/
def IsV (a b : Int) : Prop := a = b
section Rk2
variable {d : Nat} {K : Shp} {H : Mem} {X c : Nat} {nb nr sx : Nat → Nat} {q : Mem → Prop}
set_option maxHeartbeats 2000000 in
theorem rkB {T : Mem → Prop} {P : Nat} {x S D T1 C1 T2 C2 L : Int} (bm : BmP (H (X + 21)) X) (hP : X + 52 < P) (k50 : K[X + 50]? = some (5, 2)) (k51 : K[X + 51]? = some (5, 2)) (k52 : K[X + 52]? = some (5, 2)) (eL : H P 0 = L) (hx : 1 ≤ x) (hxL : x < L) (hL : L ≤ 50) (a0 : H (X + 50) 0 = S) (a1 : H (X + 50) 1 = D) (b0 : H (X + 51) 0 = T1) (b1 : H (X + 51) 1 = C1) (c0 : H (X + 52) 0 = T2) (c1 : H (X + 52) 1 = C2)
    (sb : (0 < D ∧ D ≤ 80000) ∧ 0 ≤ S ∧ S ≤ 19200000000) (hb1 : (0 < C1 ∧ C1 ≤ 80000) ∧ 0 ≤ T1 ∧ T1 ≤ 19200000000) (hb2 : (0 < C2 ∧ C2 ≤ 80000) ∧ 0 ≤ T2 ∧ T2 ≤ 19200000000)
    (hT : ∀ H' s f, (∀ z, z < X + 50 ∨ X + 52 < z → H' z = H z) → H' (X + 50) = s → H' (X + 52) = f → Red (s 0) (s 1) → Red (f 0) (f 1) → (0 ≤ s 0 ∧ s 0 ≤ 153600000000000000) → (0 < s 1 ∧ s 1 ≤ 6400000000) → (0 ≤ f 0 ∧ f 0 ≤ 960000000000) → (0 < f 1 ∧ f 1 ≤ 80000) → s 0 * (D * C1) = (S * L * C1 + T1 * (L - x) * D) * s 1 → f 0 * C2 = T2 * x * f 1 → T H') :
    (0 ≤ (H (X + 21) 8)) ∧ (K[(H (X + 21) 8).toNat]? = some (5, 2)) ∧ Cv mX5_scale (d + 3) [(2, (H (X + 21) 8)), (1, (H P 0))] K H (fun H29 => (inI ((H29 P 0) - x)) ∧ (0 ≤ (H29 (X + 21) 9)) ∧ (K[(H29 (X + 21) 9).toNat]? = some (5, 2)) ∧ Cv mX5_scale (d + 3) [(2, (H29 (X + 21) 9)), (1, ((H29 P 0) - x))] K H29 (fun H34 => (0 ≤ (H34 (X + 21) 10)) ∧ (K[(H34 (X + 21) 10).toNat]? = some (5, 2)) ∧ Cv mX5_scale (d + 3) [(2, (H34 (X + 21) 10)), (1, x)] K H34 (fun H38 => (0 ≤ (H38 (X + 21) 8)) ∧ (K[(H38 (X + 21) 8).toNat]? = some (5, 2)) ∧ Cv mX5_plus (d + 3) [(2, (H38 (X + 21) 8)), (2, (H38 (X + 21) 9))] K H38 (fun H42 => T H42)))) := by
  obtain ⟨bm1, bm2, bm3, bm4, bm7, bm8, bm9, bm10, bm11⟩ := bm
  simp only [Int.toNat_natCast, Option.some.injEq, Prod.mk.injEq, true_and, and_true, exists_eq_left', bm8, k50, eL]
  refine ⟨by omega, scale_at k50 a0 a1 sb.1 sb.2 ⟨by omega, by omega⟩ ?_⟩
  intro H4 g e4 rg fg g0 g1
  have c4 : ∀ x, x ≠ X + 50 → H4 x = H x := fun x hx => by rw [e4, upA_ne hx]
  have v4 : H4 (X + 50) = g := by rw [e4]; exact upA_same _ _ _
  clear e4
  simp only [Int.toNat_natCast, Option.some.injEq, Prod.mk.injEq, true_and, and_true, exists_eq_left', c4 (X + 21) (by omega), bm9, k51, c4 P (by omega), eL]
  refine ⟨⟨by omega, by omega⟩, by omega, scale_at k51 (by rw [c4 _ (by omega)]; exact b0) (by rw [c4 _ (by omega)]; exact b1) hb1.1 hb1.2 ⟨by omega, by omega⟩ ?_⟩
  intro H5 b e5 rb fb b0' b1'
  have c5 : ∀ x, x ≠ X + 51 → H5 x = H4 x := fun x hx => by rw [e5, upA_ne hx]
  have v5 : H5 (X + 51) = b := by rw [e5]; exact upA_same _ _ _
  clear e5
  simp only [Int.toNat_natCast, Option.some.injEq, Prod.mk.injEq, true_and, and_true, exists_eq_left', c5 (X + 21) (by omega), c4 (X + 21) (by omega), bm10, k52]
  refine ⟨by omega, scale_at k52 (by rw [c5 _ (by omega), c4 _ (by omega)]; exact c0) (by rw [c5 _ (by omega), c4 _ (by omega)]; exact c1) hb2.1 hb2.2 ⟨by omega, by omega⟩ ?_⟩
  intro H6 f e6 rf ff f0 f1
  have c6 : ∀ x, x ≠ X + 52 → H6 x = H5 x := fun x hx => by rw [e6, upA_ne hx]
  have v6 : H6 (X + 52) = f := by rw [e6]; exact upA_same _ _ _
  clear e6
  have z50 : H6 (X + 50) = g := by rw [c6 _ (by omega), c5 _ (by omega)]; exact v4
  have z51 : H6 (X + 51) = b := by rw [c6 _ (by omega)]; exact v5
  simp only [Int.toNat_natCast, Option.some.injEq, Prod.mk.injEq, true_and, and_true, exists_eq_left', c6 (X + 21) (by omega), c5 (X + 21) (by omega), c4 (X + 21) (by omega), bm8, bm9, k50]
  refine ⟨by omega, plus_at k50 k51 (by omega) (by rw [z50]) (by rw [z50]) (by rw [z51]) (by rw [z51]) g0 g1 b0' b1' ?_⟩
  intro H7 s e7 rs fs s0' s1'
  exact hT H7 s f (fun z hz => by rw [e7, upA_ne (by omega), c6 z (by omega), c5 z (by omega), c4 z (by omega)]) (by rw [e7]; exact upA_same _ _ _) (by rw [e7, upA_ne (by omega)]; exact v6) rs rf s0' s1' f0 f1 (frac_add g1.1 b1'.1 fg fb fs) ff
set_option maxHeartbeats 2000000 in
theorem rkC {P ld : Nat} {x : Int} {s f : Nat → Int} (bm : BmP (H (X + 21)) X) (hr : RatK K H (X + 24)) (hP : X + 52 < P) (k50 : K[X + 50]? = some (5, 2)) (k52 : K[X + 52]? = some (5, 2)) (pk0 : K[P]? = some (7, 5)) (pk1 : K[P + 1]? = some (20, 2)) (pk2 : K[P + 2]? = some (20, 2)) (pp3 : H P 3 = ((P + 1 : Nat) : Int)) (pp4 : H P 4 = ((P + 2 : Nat) : Int)) (hld : H P 2 = (ld : Int)) (ld2 : ld ≤ 2) (hL : 2 ≤ H P 0 ∧ H P 0 ≤ 50) (hx : 1 ≤ x ∧ x < H P 0) (hk : ∀ k, k < ld → (1 ≤ H (P + 1) k ∧ H (P + 1) k < H P 0) ∧ 1 ≤ H (P + 2) k ∧ H (P + 2) k ≤ 1000) (Fp : 0 < sumN (freeT (H P 0) (H (P + 1)) (H (P + 2)) x) ld)
    (v7 : H (X + 50) = s) (x52 : H (X + 52) = f) (rs : Red (s 0) (s 1)) (rf : Red (f 0) (f 1)) (s0' : 0 ≤ s 0 ∧ s 0 ≤ 153600000000000000) (s1' : 0 < s 1 ∧ s 1 ≤ 6400000000) (f0 : 0 ≤ f 0 ∧ f 0 ≤ 960000000000) (f1 : 0 < f 1 ∧ f 1 ≤ 80000)
    (hq : ∀ H' x' y' p r, (∀ z, z ≤ X + 24 ∨ X + 34 < z → H' z = H z) → RatK K H' (X + 24) → Dig (H' (X + 24 + 2)) p → Dig (H' (X + 24 + 4)) r → Red p r → 0 < y' → x' * (s 1 * f 1) = (s 0 * f 1 + f 0 * s 1) * y' → p * (y' * sumN (freeT (H P 0) (H (P + 1)) (H (P + 2)) x) ld) = x' * r → p ≤ 18432000000000000000000 → r ≤ 2560000000000000000000 → q H') :
    (0 ≤ (H (X + 21) 3)) ∧ (K[(H (X + 21) 3).toNat]? = some (3, 5)) ∧ Cv mX3_putSum (d + 3) [(2, (H (X + 21) 3)), (2, (H (X + 21) 8)), (2, (H (X + 21) 10))] K H (fun H46 => Cl mX7_freeTimesLength (d + 3) [(2, ((P : Nat) : Int)), (0, x)] K H46 (fun x49 H48 => (0 ≤ (H46 (X + 21) 3)) ∧ (K[(H46 (X + 21) 3).toNat]? = some (3, 5)) ∧ Cv mX3_divide (d + 3) [(2, (H46 (X + 21) 3)), (1, x49)] K H48 (fun H52 => q H52))) := by
  obtain ⟨bm1, bm2, bm3, bm4, bm7, bm8, bm9, bm10, bm11⟩ := bm
  simp only [Int.toNat_natCast, Option.some.injEq, Prod.mk.injEq, true_and, and_true, exists_eq_left', bm3, bm8, bm10, hr.1]
  refine ⟨by omega, sum_at hr k50 k52 (by omega) (by omega) (by rw [v7]) (by rw [v7]) (by rw [x52]) (by rw [x52]) rs rf s0' s1' f0 f1 ?_⟩
  intro H8 x' y' k8 s8 dx dy rd e8 lx ly
  have c8 : ∀ z, z ≤ X + 24 ∨ X + 34 < z → H8 z = H z := fun z hz => s8 z (show ¬ (X + 24 < z ∧ z ≤ X + 24 + 10) by omega)
  have eP := c8 P (by omega)
  have eP1 := c8 (P + 1) (by omega)
  have eP2 := c8 (P + 2) (by omega)
  refine sp_X7_free (ld := ld) pk0 pk1 pk2 (by rw [eP]; exact pp3) (by rw [eP]; exact pp4) (by rw [eP]; exact hld) ld2 (by rw [eP]; exact hL) (by rw [eP]; exact hx) (by rw [eP, eP1, eP2]; exact hk) ?_
  rw [eP, eP1, eP2]
  intro F0 F1
  simp only [Int.toNat_natCast, Option.some.injEq, Prod.mk.injEq, true_and, and_true, exists_eq_left', c8 (X + 21) (by omega), bm3, k8.1]
  refine ⟨by omega, div_at k8 dx dy rd ⟨Fp, F1⟩ lx ly ?_⟩
  intro H9 p r k9 s9 dp dr rd9 e9 lp lr
  exact hq H9 x' y' p r (fun z hz => (s9 z (show ¬ (X + 24 < z ∧ z ≤ X + 24 + 10) by omega)).trans (c8 z hz)) k9 dp dr rd9 rd.1 e8 e9 lp lr
end Rk2
