/-! whole, copy, turned, compareSizes -/
section Bn2
variable {d : Nat} {K : Shp} {H : Mem} {M : Nat} {q : Int → Mem → Prop}
theorem pow1 : (1073741824 : Int) ^ 1 = 1073741824 := by decide
theorem pow2 : (1073741824 : Int) ^ 2 = 1152921504606846976 := by decide
theorem pow3 : (1073741824 : Int) ^ 3 = 1237940039285380274899124224 := by decide
theorem vB3 {f : Nat → Int} : vB f 3 = f 0 + f 1 * 1073741824 + f 2 * 1152921504606846976 := by
  simp only [vB]
  rw [pow1, pow2]
  simp
theorem sp_X12_whole {t : Nat} {v : Int} (hk : RefS K M) (hp : RefP (H M) M) (ht : H M 2 = (t : Int)) (h0 : t + 4 ≤ 20000) (hv : v ≠ -9223372036854775808) (hq : ∀ H' n, n ≤ 3 → Got M H H' t n v → q (t : Int) H') : Ci mX12_whole (d + 1) [(2, (M : Int)), (1, v)] K H q := by
  refine eX12_whole fun hL _ => bX12_whole_0 ?_
  simp only [Int.toNat_natCast, Option.some.injEq, Prod.mk.injEq, true_and, and_true, exists_eq_left', hk.k0]
  refine ⟨by omega, sp_X12_room (t := t) (n := 3) hk ht (by omega) ?_⟩
  intro H3 e3
  have m3 : H3 M = up1 (H M) 2 ((t + 3 + 1 : Nat) : Int) := by rw [e3, upA_same]
  have p3 : H3 M 1 = ((M + 1 : Nat) : Int) := by rw [m3, up1_ne (by decide)]; exact hp.p1
  have o3 : H3 (M + 1) = H (M + 1) := by rw [e3, upA_ne (by omega)]
  have i1 : ((t : Int) + 1).toNat = t + 1 := by omega
  have i2 : ((t : Int) + 2).toNat = t + 2 := by omega
  have i3 : ((t : Int) + 3).toNat = t + 3 := by omega
  have main : ∀ u : Int, 0 ≤ u → u ≤ 9223372036854775807 → u = (v.natAbs : Int) → ∀ H13, H13 = upA H3 (M + 1) (up1 (H3 (M + 1)) (t + 1) (u % 1073741824)) → ∀ H22, H22 = upA H13 (M + 1) (up1 (H13 (M + 1)) (t + 2) (u / 1073741824 % 1073741824)) → ∀ H30, H30 = upA H22 (M + 1) (up1 (H22 (M + 1)) (t + 3) (u / 1152921504606846976)) → ∀ b : Int, (b = 0 → 0 ≤ v) → (b ≠ 0 → v ≤ 0) → Ci mX12_done d [(2, (M : Int)), (0, (t : Int)), (0, 3), (0, b)] K H30 q := by
    intro u u0 u1 hu H13 e13 H22 e22 H30 e30 b b0 b1
    have m30 : H30 (M + 1) = up1 (up1 (up1 (H (M + 1)) (t + 1) (u % 1073741824)) (t + 2) (u / 1073741824 % 1073741824)) (t + 3) (u / 1152921504606846976) := by rw [e30, upA_same, e22, upA_same, e13, upA_same, o3]
    have c30 : ∀ x, x ≠ M + 1 → H30 x = H3 x := fun x hx => by rw [e30, upA_ne hx, e22, upA_ne hx, e13, upA_ne hx]
    have mM : H30 M = up1 (H M) 2 ((t + 3 + 1 : Nat) : Int) := by rw [c30 M (by omega), m3]
    have g0 : dgs (H30 (M + 1)) t 0 = u % 1073741824 := by unfold dgs; rw [m30, up1_ne (by omega), up1_ne (by omega), show t + 1 + 0 = t + 1 from rfl, up1_same]
    have g1 : dgs (H30 (M + 1)) t 1 = u / 1073741824 % 1073741824 := by unfold dgs; rw [m30, up1_ne (by omega), show t + 1 + 1 = t + 2 from rfl, up1_same]
    have g2 : dgs (H30 (M + 1)) t 2 = u / 1152921504606846976 := by unfold dgs; rw [m30, show t + 1 + 2 = t + 3 from rfl, up1_same]
    have hD : D30 (dgs (H30 (M + 1)) t) 3 := by
      intro j hj
      have hj3 : j = 0 ∨ j = 1 ∨ j = 2 := by omega
      rcases hj3 with rfl | rfl | rfl
      · rw [g0]; omega
      · rw [g1]; omega
      · rw [g2]; omega
    have hV : vB (dgs (H30 (M + 1)) t) 3 = (v.natAbs : Int) := by
      rw [vB3, g0, g1, g2, ← hu]
      omega
    refine sp_X12_done (n := 3) hk (by rw [mM]; exact hp.cong [2] rfl (FO.up rfl)) (by omega) hD hV b0 b1 ?_
    intro H' k f1 f2 f3 f4 f5 f6
    refine hq H' k f5 ⟨?_, ?_, f3, ?_, f6⟩
    · intro x hx
      have z0 := hx 0 rfl
      have z1 := hx 1 rfl
      rw [f1 x hx, c30 x z1, e3, upA_ne (by omega)]
    · rw [mM] at f2
      exact (FO.up (l := [2]) rfl).same f2
    · intro j hj
      rw [f4 j (by omega), m30, up1_ne (by omega), up1_ne (by omega), up1_ne (by omega)]
  have hL1 := hL.1
  have hL2 := hL.2
  have a13 : ∀ w, ∀ H13, H13 = upA H3 (M + 1) (up1 (H3 (M + 1)) (t + 1) w) → H13 M = H3 M := fun w H13 e => by rw [e, upA_ne (by omega)]
  refine ⟨fun g => ?_, fun g => ?_⟩
  · simp only [Int.toNat_natCast, Option.some.injEq, Prod.mk.injEq, true_and, and_true, exists_eq_left', p3, hk.k1, i1]
    refine ⟨⟨by omega, by omega⟩, ⟨by omega, by omega⟩, by omega, by omega, by omega, fun H13 e13 => ?_⟩
    simp only [Int.toNat_natCast, Option.some.injEq, Prod.mk.injEq, true_and, and_true, exists_eq_left', a13 _ H13 e13, p3, hk.k1, i2]
    refine ⟨⟨by omega, by omega⟩, by omega, ⟨by omega, by omega⟩, by omega, by omega, by omega, fun H22 e22 => ?_⟩
    have m22 : H22 M = H3 M := by rw [e22, upA_ne (by omega), a13 _ H13 e13]
    simp only [Int.toNat_natCast, Option.some.injEq, Prod.mk.injEq, true_and, and_true, exists_eq_left', m22, p3, hk.k1, i3]
    refine ⟨⟨by omega, by omega⟩, ⟨by omega, by omega⟩, by omega, by omega, by omega, fun H30 e30 => ⟨fun _ => main v (by omega) (by omega) (by omega) H13 e13 H22 e22 H30 e30 0 (fun _ => by omega) (fun z => absurd rfl z), fun z => absurd z g⟩⟩
  · simp only [Int.toNat_natCast, Option.some.injEq, Prod.mk.injEq, true_and, and_true, exists_eq_left', p3, hk.k1, i1]
    refine ⟨⟨by omega, by omega⟩, ⟨by omega, by omega⟩, ⟨by omega, by omega⟩, by omega, by omega, by omega, fun H13 e13 => ?_⟩
    simp only [Int.toNat_natCast, Option.some.injEq, Prod.mk.injEq, true_and, and_true, exists_eq_left', a13 _ H13 e13, p3, hk.k1, i2]
    refine ⟨⟨by omega, by omega⟩, by omega, ⟨by omega, by omega⟩, by omega, by omega, by omega, fun H22 e22 => ?_⟩
    have m22 : H22 M = H3 M := by rw [e22, upA_ne (by omega), a13 _ H13 e13]
    simp only [Int.toNat_natCast, Option.some.injEq, Prod.mk.injEq, true_and, and_true, exists_eq_left', m22, p3, hk.k1, i3]
    refine ⟨⟨by omega, by omega⟩, ⟨by omega, by omega⟩, by omega, by omega, by omega, fun H30 e30 => ⟨fun z => absurd g z, fun _ => main (-v) (by omega) (by omega) (by omega) H13 e13 H22 e22 H30 e30 1 (fun z => absurd z (by decide)) (fun _ => by omega)⟩⟩
theorem sp_X12_copy {t a n : Nat} {v : Int} (hk : RefS K M) (hp : RefP (H M) M) (ht : H M 2 = (t : Int)) (ha : a + n < t) (h0 : t + n + 1 ≤ 20000) (hb : BN (H (M + 1)) a n v) (hq : ∀ H', Got M H H' t n v → q (t : Int) H') : Ci mX12_copy (d + 1) [(2, (M : Int)), (0, (a : Int))] K H q := by
  refine eX12_copy fun _ _ => bX12_copy_0 ?_
  simp only [Int.toNat_natCast, Option.some.injEq, Prod.mk.injEq, true_and, and_true, exists_eq_left', hk.k0]
  refine ⟨by omega, sp_X12_places hk hp (by omega) hb (sp_X12_room (t := t) (n := n) hk ht (by omega) ?_)⟩
  intro H5 e5
  have m5 : H5 M = up1 (H M) 2 ((t + n + 1 : Nat) : Int) := by rw [e5, upA_same]
  have o5 : H5 (M + 1) = H (M + 1) := by rw [e5, upA_ne (by omega)]
  have loop : ∀ (m k : Nat), k + m = n + 1 → ∀ G : Mem, (∀ x, x ≠ M + 1 → G x = H5 x) → (∀ j, j < t → G (M + 1) j = H (M + 1) j) → (∀ j, j < k → G (M + 1) (t + j) = H (M + 1) (a + j)) → FX12_copy_15 d K G q (M : Int) (a : Int) (n : Int) (t : Int) (k : Int) := by
    intro m
    induction m with
    | zero =>
      intro k hkm G g1 g2 g3
      refine bX12_copy_15 ⟨fun _ => hq G ⟨?_, ?_, ?_, g2, ?_⟩, fun g => absurd g (by omega)⟩
      · intro x hx
        have z0 := hx 0 rfl
        have z1 := hx 1 rfl
        rw [g1 x z1, e5, upA_ne (by omega)]
      · rw [g1 M (by omega), m5]; exact FO.up rfl
      · rw [g1 M (by omega), m5, up1_same]
      · obtain ⟨h1, h2, h3, h4⟩ := hb
        have ed : ∀ j, j < n → dgs (G (M + 1)) t j = dgs (H (M + 1)) a j := fun j hj => by
          unfold dgs
          rw [Nat.add_assoc, Nat.add_assoc]
          exact g3 (1 + j) (by omega)
        exact ⟨fun j hj => by rw [ed j hj]; exact h1 j hj, by rw [g3 n (by omega)]; exact h2, by rw [vB_congr ed]; exact h3, by have := g3 0 (by omega); simp only [Nat.add_zero] at this; rw [this]; exact h4⟩
    | succ m ih =>
      intro k hkm G g1 g2 g3
      have gM := g1 M (by omega)
      have p1 : G M 1 = ((M + 1 : Nat) : Int) := by rw [gM, m5, up1_ne (by decide)]; exact hp.p1
      have i1 : ((a : Int) + (k : Int)).toNat = a + k := by omega
      have i2 : ((t : Int) + (k : Int)).toNat = t + k := by omega
      refine bX12_copy_15 ⟨fun g => absurd (by omega) g, fun _ => ?_⟩
      simp only [Int.toNat_natCast, Option.some.injEq, Prod.mk.injEq, true_and, and_true, exists_eq_left', hk.k0, p1, hk.k1, i1, i2]
      refine ⟨by omega, ⟨by omega, by omega⟩, ⟨by omega, by omega⟩, by omega, by omega, by omega, by omega, by omega, fun H' e' => ⟨⟨by omega, by omega⟩, ih (k + 1) (by omega) H' (fun x hx => by rw [e', upA_ne hx, g1 x hx]) (fun j hj => by rw [e', upA_same, up1_ne (by omega), g2 j hj]) (fun j hj => ?_)⟩⟩
      rw [e', upA_same]
      by_cases ej : j = k
      · subst ej; rw [up1_same, g2 _ (by omega)]
      · rw [up1_ne (by omega)]; exact g3 j (by omega)
  exact loop (n + 1) 0 (by omega) H5 (fun _ _ => rfl) (fun j _ => by rw [o5]) (fun j hj => absurd hj (by omega))
theorem sp_X12_turned {t a n : Nat} {v : Int} (hk : RefS K M) (hp : RefP (H M) M) (ht : H M 2 = (t : Int)) (ha : a + n < t) (h0 : t + n + 1 ≤ 20000) (hb : BN (H (M + 1)) a n v) (hq : ∀ H', Got M H H' t n (-v) → q (t : Int) H') : Ci mX12_turned (d + 2) [(2, (M : Int)), (0, (a : Int))] K H q := by
  refine eX12_turned fun _ _ => bX12_turned_0 ?_
  simp only [Int.toNat_natCast, Option.some.injEq, Prod.mk.injEq, true_and, and_true, exists_eq_left', hk.k0]
  refine ⟨by omega, sp_X12_copy hk hp ht ha h0 hb ?_⟩
  rintro H3 ⟨f1, f2, f3, f4, f5⟩
  have p1 : H3 M 1 = ((M + 1 : Nat) : Int) := by rw [f2 1 rfl]; exact hp.p1
  obtain ⟨h1, h2, h3, h4⟩ := f5
  have hz := BN.zero ⟨h1, h2, h3, h4⟩
  simp only [Int.toNat_natCast, Option.some.injEq, Prod.mk.injEq, true_and, and_true, exists_eq_left', p1, hk.k1]
  refine ⟨by omega, by omega, by omega, ⟨by split at h4 <;> omega, by split at h4 <;> omega⟩, fun H' e' => hq H' ⟨?_, ?_, ?_, ?_, ?_, ?_, ?_, ?_⟩⟩
  · intro x hx
    rw [e', upA_ne (hx 1 rfl), f1 x hx]
  · rw [e', upA_ne (by omega)]; exact f2
  · rw [e', upA_ne (by omega)]; exact f3
  · intro j hj; rw [e', upA_same, up1_ne (by omega), f4 j hj]
  · intro j hj
    have : dgs (H' (M + 1)) t j = dgs (H3 (M + 1)) t j := by unfold dgs; rw [e', upA_same, up1_ne (by omega)]
    rw [this]; exact h1 j hj
  · rcases h2 with h2 | h2
    · exact Or.inl h2
    · by_cases n0 : n = 0
      · exact Or.inl n0
      · right; rw [e', upA_same, up1_ne (by omega)]; exact h2
  · rw [vB_congr (g := dgs (H3 (M + 1)) t) (fun j hj => by unfold dgs; rw [e', upA_same, up1_ne (by omega)]), h3]
    omega
  · rw [e', upA_same, up1_same, h4]
    by_cases c : v < 0
    · rw [if_pos c, if_neg (by omega)]; omega
    · rw [if_neg c]
      by_cases c0 : v = 0
      · rw [if_neg (by omega), hz.mpr c0]; rfl
      · rw [if_pos (by omega)]
theorem sp_X12_compareSizes {a b n m : Nat} {v w : Int} (hk : RefS K M) (hp : RefP (H M) M) (ha : a + n < 20000) (hb : b + m < 20000) (hv : BN (H (M + 1)) a n v) (hw : BN (H (M + 1)) b m w) (hq : q ((v.natAbs : Int) - (w.natAbs : Int)).sign H) : Ci mX12_compareSizes (d + 1) [(2, (M : Int)), (0, (a : Int)), (0, (b : Int))] K H q := by
  obtain ⟨v1, v2, v3, v4⟩ := id hv
  obtain ⟨w1, w2, w3, w4⟩ := id hw
  have lt_of_len : ∀ {a b n m : Nat} {v w : Int}, BN (H (M + 1)) a n v → BN (H (M + 1)) b m w → n < m → (v.natAbs : Int) < (w.natAbs : Int) := by
    intro a b n m v w hv hw hlt
    rcases Int.lt_or_le (v.natAbs : Int) (w.natAbs : Int) with g | g
    · exact g
    · exfalso
      have h1 := vB_lt hv.1
      rw [hv.2.2.1] at h1
      have := hw.len (k := n) (by omega)
      omega
  refine eX12_compareSizes fun _ _ _ => bX12_compareSizes_0 ?_
  simp only [Int.toNat_natCast, Option.some.injEq, Prod.mk.injEq, true_and, and_true, exists_eq_left', hk.k0]
  refine ⟨by omega, sp_X12_places hk hp ha hv (sp_X12_places hk hp hb hw ⟨fun g => ?_, fun g => sp_X12_places hk hp hb hw ⟨fun g2 => ?_, fun g2 => ?_⟩⟩)⟩
  · have enm : n = m := by omega
    subst enm
    have loop : ∀ k, k ≤ n → (∀ j, k ≤ j → j < n → dgs (H (M + 1)) a j = dgs (H (M + 1)) b j) → FX12_compareSizes_33 d K H q (M : Int) (a : Int) (b : Int) (k : Int) := by
      intro k
      induction k with
      | zero =>
        intro hkn he
        refine bX12_compareSizes_33 ⟨fun _ => ?_, fun g => absurd (by omega) g⟩
        have := vB_congr (f := dgs (H (M + 1)) a) (g := dgs (H (M + 1)) b) (n := n) (fun j hj => he j (by omega) hj)
        rw [v3, w3] at this
        rw [this, Int.sub_self] at hq
        exact hq
      | succ k ih =>
        intro hkn he
        have i1 : ((a : Int) + ((k + 1 : Nat) : Int)).toNat = a + 1 + k := by omega
        have i2 : ((b : Int) + ((k + 1 : Nat) : Int)).toNat = b + 1 + k := by omega
        refine bX12_compareSizes_33 ⟨fun g => absurd g (by omega), fun _ => ?_⟩
        simp only [Int.toNat_natCast, Option.some.injEq, Prod.mk.injEq, true_and, and_true, exists_eq_left', hk.k0, hp.p1, hk.k1, i1, i2]
        refine ⟨by omega, ⟨by omega, by omega⟩, by omega, by omega, by omega, ⟨by omega, by omega⟩, by omega, by omega, fun heq => ⟨⟨by omega, by omega⟩, ?_⟩, fun hne => ⟨fun hle => ?_, fun hgt => ?_⟩⟩
        · rw [show ((k + 1 : Nat) : Int) + (-1) = (k : Int) by omega]
          refine ih (by omega) (fun j h1 h2 => ?_)
          by_cases ej : j = k
          · subst ej; exact heq
          · exact he j (by omega) h2
        · have := vB_cmp v1 w1 k (by omega) (fun j h1 h2 => he j (by omega) h2) (show H (M + 1) (a + 1 + k) < H (M + 1) (b + 1 + k) by omega)
          rw [v3, w3] at this
          rw [Int.sign_eq_neg_one_of_neg (by omega)] at hq
          exact hq
        · have := vB_cmp w1 v1 k (by omega) (fun j h1 h2 => (he j (by omega) h2).symm) (show H (M + 1) (b + 1 + k) < H (M + 1) (a + 1 + k) by omega)
          rw [v3, w3] at this
          rw [Int.sign_eq_one_of_pos (by omega)] at hq
          exact hq
    exact loop n (Nat.le_refl n) (fun j h1 h2 => absurd h2 (by omega))
  · have := lt_of_len hv hw (by omega)
    rw [Int.sign_eq_neg_one_of_neg (by omega)] at hq
    exact hq
  · have := lt_of_len hw hv (by omega)
    rw [Int.sign_eq_one_of_pos (by omega)] at hq
    exact hq
end Bn2
