/-! divide: the steps, the shift ahead of them, the whole -/
section Div2
variable {d : Nat} {K : Shp} {H : Mem} {M : Nat} {q : Mem → Prop}
theorem vB_zeros {f : Nat → Int} {k : Nat} : ∀ (r : Nat), (∀ j, k ≤ j → j < k + r → f j = 0) → vB f (k + r) = vB f k
  | 0, _ => rfl
  | r + 1, h => by
    rw [← Nat.add_assoc, vB_top, vB_zeros r (fun j h1 h2 => h j h1 (by omega)), h (k + r) (by omega) (by omega)]
    omega
theorem div_steps {n m s : Nat} {P R v w : Int} (hk : RefS K M) (hp : RefP (H M) M) (hPR : PR s P R) (hm : 0 < m) (hmn : m ≤ n) (hn99 : n ≤ 98) (hw0 : 0 < (w.natAbs : Int)) (hq : ∀ H', DivOut M H H' n m v w → q H') :
    ∀ (i : Nat) (G : Mem), i ≤ n - m + 1 → FC M [0, 2, 3, 4] H G → FO [6, 7] (H M) (G M) → G M 7 = ((n - m + 1 : Nat) : Int) → D30 (G (M + 3)) m → 0 < G (M + 3) (m - 1) → vB (G (M + 3)) m = P * (w.natAbs : Int) → D30 (G (M + 2)) (n + 1) → (∀ j, i + m ≤ j → j ≤ n → G (M + 2) j = 0) → (∀ j, i ≤ j → j < n - m + 1 → 0 ≤ G (M + 4) j ∧ G (M + 4) j < 1073741824) →
      vB (G (M + 2)) (i + m) + P * (w.natAbs : Int) * (1073741824 ^ i * vB (ofs (G (M + 4)) i) (n - m + 1 - i)) = P * (v.natAbs : Int) → (0 < i → vB (ofs (G (M + 2)) (i - 1)) (m + 1) < P * (w.natAbs : Int) * 1073741824) → (i = 0 → vB (G (M + 2)) m < P * (w.natAbs : Int)) → FX12_divide_292 (d + 1) K G q (M : Int) (m : Int) (s : Int) ((i : Int) - 1) := by
  intro i
  induction i with
  | zero =>
    intro G hi g1 g2 g3 g4 g5 g6 g7 g8 g9 g10 g11 g12
    refine bX12_divide_292 ⟨fun _ => ?_, fun z => absurd (by omega) z⟩
    rw [ofs_0, Nat.sub_zero, Int.pow_zero, Int.one_mul, Nat.zero_add] at g10
    exact div_tail hk hp hPR hm (by omega) (by omega) hw0 hq (n - m + 1) G (by omega) (by omega) g1 g2 g3 (fun j hj => g9 j (by omega) hj) (g7.less (by omega)) g10 (g12 rfl)
  | succ i ih =>
    intro G hi g1 g2 g3 g4 g5 g6 g7 g8 g9 g10 g11 g12
    have hpG : RefP (G M) M := hp.cong _ rfl g2
    have hg11 := g11 (by omega)
    simp only [Nat.add_sub_cancel] at hg11
    rw [show ((i + 1 : Nat) : Int) - 1 = (i : Int) by omega]
    refine bX12_divide_292 ⟨fun z => absurd z (by omega), fun _ => ?_⟩
    simp only [Int.toNat_natCast, Option.some.injEq, Prod.mk.injEq, true_and, and_true, exists_eq_left', hk.k0, g2 5 rfl, hp.p5, hk.k4]
    refine ⟨by omega, sp_X12_step (X := vB (ofs (G (M + 2)) i) (m + 1)) (W := P * (w.natAbs : Int)) hk hpG hm (by omega) (fun j hj => g7 (i + j) (by omega)) g4 g5 g6 rfl hg11 ?_⟩
    intro G1 gq a1 a2 a3 a4 a5 a6 a7 a8
    refine ⟨by omega, by omega, by omega, fun H' e' => ⟨⟨by omega, by omega⟩, ?_⟩⟩
    rw [show (i : Int) + (-1) = (i : Int) - 1 by omega]
    have o : ∀ j, j ≠ 4 → H' (M + j) = G1 (M + j) := fun j hj => by rw [e', upA_ne (by omega)]
    have c4 : H' (M + 4) = up1 (G (M + 4)) i gq := by rw [e', upA_same, a1.at 4 rfl]
    have mM : H' M = G M := (o 0 (by omega)).trans (a1.self rfl)
    have c3 : H' (M + 3) = G (M + 3) := (o 3 (by omega)).trans (a1.at 3 rfl)
    have c2 : H' (M + 2) = G1 (M + 2) := o 2 (by omega)
    have dig : ∀ j, j ≤ n → 0 ≤ G1 (M + 2) j ∧ G1 (M + 2) j < 1073741824 := by
      intro j hj
      by_cases j1 : j < i ∨ i + m < j
      · rw [a2 j j1]; exact g7 j (by omega)
      · by_cases j2 : j = i + m
        · rw [j2, a4]; omega
        · have := a3 (j - i) (by omega)
          unfold ofs at this
          rwa [show i + (j - i) = j by omega] at this
    have hsp1 := vB_split (f := G (M + 2)) (p := i) (r := m + 1)
    have hsp2 := vB_split (f := G1 (M + 2)) (p := i) (r := m)
    have elow : vB (G1 (M + 2)) i = vB (G (M + 2)) i := vB_congr (fun j hj => a2 j (by omega))
    refine ih H' (by omega) ((g1.same (a1.wide rfl)).same (by rw [e']; exact FC.up rfl)) (by rw [mM]; exact g2) (by rw [mM]; exact g3) (by rw [c3]; exact g4) (by rw [c3]; exact g5) (by rw [c3]; exact g6) (by rw [c2]; exact fun j hj => dig j (by omega)) ?_ ?_ ?_ ?_ ?_
    · intro j h1 h2
      rw [c2]
      by_cases j2 : j = i + m
      · rw [j2, a4]
      · rw [a2 j (by omega)]; exact g8 j (by omega) h2
    · intro j h1 h2
      rw [c4]
      by_cases j2 : j = i
      · rw [j2, up1_same]; exact ⟨a5, a6⟩
      · rw [up1_ne j2]; exact g9 j (by omega) h2
    · obtain ⟨r, hr⟩ : ∃ r, n - m + 1 - i = r + 1 := ⟨n - m - i, by omega⟩
      rw [show n - m + 1 - (i + 1) = r by omega, show i + 1 + m = i + (m + 1) by omega] at g10
      rw [hr, vB_ofs, c2, c4, up1_same, hsp2, elow, a7]
      have eo : vB (ofs (up1 (G (M + 4)) i gq) (i + 1)) r = vB (ofs (G (M + 4)) (i + 1)) r := vB_congr (fun j hj => by unfold ofs; rw [up1_ne (by omega)])
      rw [eo, ← g10, hsp1, bsucc]
      generalize vB (ofs (G (M + 4)) (i + 1)) r = Q
      generalize vB (ofs (G (M + 2)) i) (m + 1) = X
      generalize vB (G (M + 2)) i = Z
      generalize P * (w.natAbs : Int) = W
      generalize (1073741824 : Int) ^ i = b
      clear ih hsp1 hsp2 elow eo
      grind
    · intro hi0
      obtain ⟨i', rfl⟩ : ∃ i', i = i' + 1 := ⟨i - 1, by omega⟩
      simp only [Nat.add_sub_cancel]
      rw [c2, vB_ofs]
      have := dig i' (by omega)
      have h8 : vB (ofs (G1 (M + 2)) (i' + 1)) m ≤ P * (w.natAbs : Int) - 1 := by omega
      omega
    · intro hi0
      subst hi0
      rw [c2]
      rw [ofs_0] at a8
      exact a8
theorem pw_nat (s : Nat) : ((2 ^ (s + 1) : Nat) : Int) = 2 * ((2 ^ s : Nat) : Int) := by
  rw [Nat.pow_succ]
  omega
theorem div_shl {n m s a b : Nat} {P R v w : Int} (hk : RefS K M) (hp : RefP (H M) M) (hPR : PR s P R) (hm : 1 < m) (hmn : m ≤ n) (hn99 : n ≤ 98) (ha : a + n < 20000) (hb : b + m < 20000) (hv : BN (H (M + 1)) a n v) (hw : BN (H (M + 1)) b m w) (htop : H (M + 1) (b + m) * P < 1073741824) (htop2 : 536870912 ≤ H (M + 1) (b + m) * P) (hq : ∀ H', DivOut M H H' n m v w → q H') :
    ∀ (G : Mem), FC M [0, 2] H G → FO [6, 7] (H M) (G M) → (∀ j, j < n → G (M + 2) j = dgs (H (M + 1)) a j) → FX12_divide_114 (d + 1) K G q (M : Int) (b : Int) (n : Int) (m : Int) (s : Int) 0 := by
  have hpp := hPR.pos
  have s29 := hPR.1
  have hw0 : 0 < (w.natAbs : Int) := by
    have hz := hw.zero
    omega
  have i3 : ((30 : Int) - (s : Int)).toNat = 30 - s := by omega
  have hR0 : s = 0 → R = 1073741824 := fun h => by
    have h1 := hPR.2.2
    rw [h] at h1
    rw [h1]; decide
  have cz : ∀ {f : Nat → Int} {k : Nat}, s = 0 → 0 ≤ f k → f k < 1073741824 → f k / R = 0 := fun h h0 h1 => by
    rw [hR0 h]; exact Int.ediv_eq_zero_of_lt h0 h1
  have dtop : dgs (H (M + 1)) b (m - 1) = H (M + 1) (b + m) := by unfold dgs; rw [show b + 1 + (m - 1) = b + m by omega]
  -- the dividend, from its greatest digit down
  have shl : ∀ (k : Nat) (G : Mem), k ≤ n → FC M [0, 2, 3] H G → FO [6, 7] (H M) (G M) → (∀ j, j < m → G (M + 3) j = shd (dgs (H (M + 1)) b) P R j) → (∀ j, j < k → G (M + 2) j = dgs (H (M + 1)) a j) → (∀ j, k ≤ j → j < n → G (M + 2) j = shd (dgs (H (M + 1)) a) P R j) → G (M + 2) n = dgs (H (M + 1)) a (n - 1) / R → FX12_divide_215 (d + 1) K G q (M : Int) (n : Int) (m : Int) (s : Int) ((k : Int) - 1) := by
    intro k
    induction k with
    | zero =>
      intro G hkn g1 g2 g3 g4 g5 g6
      refine bX12_divide_215 ⟨fun _ => ?_, fun z => absurd (by omega) z⟩
      simp only [Int.toNat_natCast, Option.some.injEq, Prod.mk.injEq, true_and, and_true, exists_eq_left', hk.k0]
      refine ⟨⟨by omega, by omega⟩, ⟨by omega, by omega⟩, by omega, fun H6 e6 => ?_⟩
      have o : ∀ j, 0 < j → H6 (M + j) = G (M + j) := fun j hj => by rw [e6, upA_ne (by omega)]
      have m6 : H6 M = up1 (G M) 7 ((n : Int) - (m : Int) + 1) := by rw [e6, upA_same]
      have vby : vB (H6 (M + 3)) m = P * (w.natAbs : Int) := by
        have e := shd_val (f := dgs (H (M + 1)) b) hPR m
        rw [if_neg (by omega), dtop, hw.2.2.1] at e
        have t0 := (hw.1 (m - 1) (by omega)).1
        rw [dtop] at t0
        have z : H (M + 1) (b + m) / R = 0 := by
          have := hPR.div (H (M + 1) (b + m))
          have := hPR.low (H (M + 1) (b + m))
          omega
        rw [z] at e
        rw [o 3 (by omega), vB_congr g3]
        omega
      have vle : vB (H6 (M + 2)) (n + 1) = P * (v.natAbs : Int) := by
        have e := shd_val (f := dgs (H (M + 1)) a) hPR n
        rw [if_neg (by omega), hv.2.2.1] at e
        rw [o 2 (by omega), vB_top, g6, vB_congr (fun j hj => g5 j (by omega) hj)]
        exact e
      have hD2 : D30 (H6 (M + 2)) (n + 1) := by
        intro j hj
        rw [o 2 (by omega)]
        by_cases ej : j = n
        · rw [ej, g6]
          have h1 := hv.1 (n - 1) (by omega)
          have := hPR.carry h1.1 h1.2
          omega
        · rw [g5 j (by omega) (by omega)]; exact shd_bd hPR hv.1 (by omega)
      have hby : ∀ j, j < m → H6 (M + 3) j = shd (dgs (H (M + 1)) b) P R j := fun j hj => by rw [o 3 (by omega)]; exact g3 j hj
      have ltop : 536870912 ≤ shd (dgs (H (M + 1)) b) P R (m - 1) := by
        unfold shd
        rw [if_neg (by omega), dtop, Int.emod_eq_of_lt (by omega) htop]
        have h1 := hw.1 (m - 1 - 1) (by omega)
        have := hPR.carry h1.1 h1.2
        omega
      rw [show (n : Int) - (m : Int) = ((n - m + 1 : Nat) : Int) - 1 by omega]
      refine div_steps hk hp hPR (by omega) hmn hn99 hw0 hq (n - m + 1) H6 (Nat.le_refl _) ((g1.wide (l' := [0, 2, 3, 4]) rfl).same (by rw [e6]; exact FC.up0 rfl)) (by rw [m6]; exact g2.same (FO.up rfl)) (by rw [m6, up1_same]; omega) (fun j hj => by rw [hby j hj]; exact shd_bd hPR hw.1 hj) (by rw [hby _ (by omega)]; omega) vby hD2 (fun j h1 h2 => absurd h2 (by omega)) (fun j h1 h2 => absurd h2 (by omega)) ?_ ?_ (fun h => absurd h (by omega))
      · rw [show n - m + 1 + m = n + 1 by omega, vle, Nat.sub_self]
        simp [vB]
      · intro _
        simp only [Nat.add_sub_cancel]
        have sp := vB_split (f := H6 (M + 2)) (p := n - m) (r := m + 1)
        rw [show n - m + (m + 1) = n + 1 by omega, vle] at sp
        have z1 := vB_nonneg (hD2.less (show n - m ≤ n + 1 by omega))
        have z2 := vB_lt hv.1
        rw [hv.2.2.1] at z2
        have bp := bpos (n - m)
        have e2 : (1073741824 : Int) ^ n = 1073741824 ^ (n - m) * 1073741824 ^ m := by rw [← Int.pow_add]; congr 1; omega
        have hW : 536870912 * 1073741824 ^ (m - 1) ≤ P * (w.natAbs : Int) := by
          rw [← vby]
          obtain ⟨m', rfl⟩ : ∃ m', m = m' + 1 := ⟨m - 1, by omega⟩
          simp only [Nat.add_sub_cancel] at ltop ⊢
          have hb1 := hby m' (by omega)
          rw [vB_top]
          have y1 := vB_nonneg (f := H6 (M + 3)) (n := m') (fun j hj => by rw [hby j (by omega)]; exact shd_bd hPR hw.1 (by omega))
          have y2 := Int.mul_le_mul_of_nonneg_right (show 536870912 ≤ H6 (M + 3) m' by omega) (Int.le_of_lt (bpos m'))
          omega
        have hWb : 536870912 * 1073741824 ^ m ≤ P * (w.natAbs : Int) * 1073741824 := by
          have e3 : (1073741824 : Int) ^ m = 1073741824 ^ (m - 1) * 1073741824 := by rw [← bsucc]; congr 1; omega
          rw [e3, ← Int.mul_assoc]
          exact Int.mul_le_mul_of_nonneg_right hW (by decide)
        have hPv : P * (v.natAbs : Int) < 1073741824 ^ (n - m) * (P * (w.natAbs : Int) * 1073741824) := by
          have y1 : P * (v.natAbs : Int) < P * 1073741824 ^ n := Int.mul_lt_mul_of_pos_left z2 (by omega)
          have y2 : P * 1073741824 ^ n ≤ 536870912 * 1073741824 ^ n := Int.mul_le_mul_of_nonneg_right hpp.2.2 (Int.le_of_lt (bpos n))
          have y3 : 536870912 * (1073741824 : Int) ^ n = 1073741824 ^ (n - m) * (536870912 * 1073741824 ^ m) := by
            rw [e2]
            generalize (1073741824 : Int) ^ (n - m) = x1
            generalize (1073741824 : Int) ^ m = x2
            grind
          have y4 := Int.mul_le_mul_of_nonneg_left hWb (Int.le_of_lt bp)
          omega
        rcases Int.lt_or_le (vB (ofs (H6 (M + 2)) (n - m)) (m + 1)) (P * (w.natAbs : Int) * 1073741824) with z | z
        · exact z
        · exfalso
          have := Int.mul_le_mul_of_nonneg_left z (Int.le_of_lt bp)
          omega
    | succ k ih =>
      intro G hkn g1 g2 g3 g4 g5 g6
      have hfk := hv.1 k (by omega)
      have hgk := g4 k (by omega)
      have sl := hPR.low (dgs (H (M + 1)) a k)
      have sb := shd_bd hPR hv.1 (k := k) (by omega)
      rw [show ((k + 1 : Nat) : Int) - 1 = (k : Int) by omega]
      have nx : ∀ y : Int, y = (if k = 0 then 0 else dgs (H (M + 1)) a (k - 1) / R) → FX12_divide_268 (d + 1) K G q (M : Int) (n : Int) (m : Int) (s : Int) (k : Int) y (dgs (H (M + 1)) a k * P % 1073741824) (k : Int) ((M + 2 : Nat) : Int) := by
        intro y hy
        have hxy : shd (dgs (H (M + 1)) a) P R k = dgs (H (M + 1)) a k * P % 1073741824 + y := by unfold shd; rw [hy]
        have hyb : 0 ≤ y ∧ y < P := by
          rw [hy]
          by_cases c1 : k = 0
          · rw [if_pos c1]; omega
          · rw [if_neg c1]
            have h1 := hv.1 (k - 1) (by omega)
            exact hPR.carry h1.1 h1.2
        refine bX12_divide_268 ?_
        simp only [Int.toNat_natCast, Option.some.injEq, Prod.mk.injEq, true_and, and_true, exists_eq_left', hk.k2]
        rw [← hxy]
        refine ⟨⟨s, sl.1, by rw [← hPR.2.1]; exact sl.2.2, hyb.1, by rw [← hPR.2.1]; exact hyb.2, ⟨by omega, by omega⟩⟩, by omega, by omega, by omega, fun H' e' => ⟨⟨by omega, by omega⟩, ?_⟩⟩
        rw [show (k : Int) + (-1) = (k : Int) - 1 by omega]
        have c2 : H' (M + 2) = up1 (G (M + 2)) k (shd (dgs (H (M + 1)) a) P R k) := by rw [e', upA_same]
        have o : ∀ j, j ≠ 2 → H' (M + j) = G (M + j) := fun j hj => by rw [e', upA_ne (by omega)]
        have mM : H' M = G M := o 0 (by omega)
        refine ih H' (by omega) (g1.same (by rw [e']; exact FC.up rfl)) (by rw [mM]; exact g2) (by rw [o 3 (by omega)]; exact g3) (fun j hj => by rw [c2, up1_ne (by omega)]; exact g4 j (by omega)) (fun j h1 h2 => ?_) (by rw [c2, up1_ne (by omega)]; exact g6)
        rw [c2]
        by_cases ej : j = k
        · subst ej; rw [up1_same]
        · rw [up1_ne ej]; exact g5 j (by omega) h2
      refine bX12_divide_215 ⟨fun z => absurd z (by omega), fun _ => ?_⟩
      simp only [Int.toNat_natCast, Option.some.injEq, Prod.mk.injEq, true_and, and_true, exists_eq_left', hk.k0, g2 3 rfl, hp.p3, hk.k2, hgk, i3]
      rw [← hPR.2.1, ← hPR.2.2, bm_mod]
      refine ⟨by omega, by omega, by omega, by omega, by omega, by omega, fun z => nx 0 (by rw [if_pos (by omega)]), fun z => ⟨fun z0 => nx 0 ?_, fun z0 => ⟨⟨by omega, by omega⟩, by omega, by omega, ⟨by omega, by omega⟩, by omega, by omega, ?_⟩⟩⟩
      · have h1 := hv.1 (k - 1) (by omega)
        rw [if_neg (by omega), cz (by omega) h1.1 h1.2]
      · have i4 : ((k : Int) - 1).toNat = k - 1 := by omega
        rw [i4, g4 (k - 1) (by omega)]
        exact nx _ (by rw [if_neg (by omega)])
  have byl : ∀ (r k : Nat), k + r = m → ∀ (G : Mem), FC M [0, 2, 3] H G → FO [6, 7] (H M) (G M) → (∀ j, j < n → G (M + 2) j = dgs (H (M + 1)) a j) → (∀ j, j < k → G (M + 3) j = shd (dgs (H (M + 1)) b) P R j) → FX12_divide_114 (d + 1) K G q (M : Int) (b : Int) (n : Int) (m : Int) (s : Int) (k : Int) := by
    intro r
    induction r with
    | zero =>
      intro k hkr G g1 g2 g3 g4
      have i4 : ((n : Int) - 1).toNat = n - 1 := by omega
      have h1 := hv.1 (n - 1) (by omega)
      have fin : ∀ (y : Int), y = dgs (H (M + 1)) a (n - 1) / R → ∀ H10, H10 = upA G (M + 2) (up1 (G (M + 2)) n y) → FX12_divide_215 (d + 1) K H10 q (M : Int) (n : Int) (m : Int) (s : Int) ((n : Int) - 1) := by
        intro y hy H10 e10
        have c2 : H10 (M + 2) = up1 (G (M + 2)) n y := by rw [e10, upA_same]
        have o : ∀ j, j ≠ 2 → H10 (M + j) = G (M + j) := fun j hj => by rw [e10, upA_ne (by omega)]
        have mM : H10 M = G M := o 0 (by omega)
        exact shl n H10 (Nat.le_refl n) (g1.same (by rw [e10]; exact FC.up rfl)) (by rw [mM]; exact g2) (by rw [o 3 (by omega)]; exact fun j hj => g4 j (by omega)) (fun j hj => by rw [c2, up1_ne (by omega)]; exact g3 j hj) (fun j h1 h2 => absurd h2 (by omega)) (by rw [c2, up1_same, hy])
      refine bX12_divide_114 ⟨fun _ => ?_, fun z => absurd z (by omega)⟩
      simp only [Int.toNat_natCast, Option.some.injEq, Prod.mk.injEq, true_and, and_true, exists_eq_left', hk.k0, g2 3 rfl, hp.p3, hk.k2, i4, i3, g3 (n - 1) (by omega)]
      rw [← hPR.2.2]
      exact ⟨by omega, fun z => ⟨by omega, by omega, by omega, fun H10 e10 => ⟨⟨by omega, by omega⟩, fin 0 (cz (by omega) h1.1 h1.2).symm H10 e10⟩⟩, fun z => ⟨⟨by omega, by omega⟩, by omega, by omega, by omega, ⟨by omega, by omega⟩, by omega, by omega, by omega, by omega, fun H23 e23 => fin _ rfl H23 e23⟩⟩
    | succ r ih =>
      intro k hkr G g1 g2 g3 g4
      have hfk := hw.1 k (by omega)
      have gm := g1.at 1 rfl
      have sl := hPR.low (dgs (H (M + 1)) b k)
      have sb := shd_bd hPR hw.1 (k := k) (by omega)
      have ib : ((b : Int) + 1 + (k : Int)).toNat = b + 1 + k := by omega
      have ib2 : ((b : Int) + (k : Int)).toNat = b + k := by omega
      have eb : H (M + 1) (b + 1 + k) = dgs (H (M + 1)) b k := rfl
      have nx : ∀ y : Int, y = (if k = 0 then 0 else dgs (H (M + 1)) b (k - 1) / R) → FX12_divide_173 (d + 1) K G q (M : Int) (b : Int) (n : Int) (m : Int) (s : Int) (k : Int) y (dgs (H (M + 1)) b k * P % 1073741824) (k : Int) ((M + 3 : Nat) : Int) := by
        intro y hy
        have hxy : shd (dgs (H (M + 1)) b) P R k = dgs (H (M + 1)) b k * P % 1073741824 + y := by unfold shd; rw [hy]
        have hyb : 0 ≤ y ∧ y < P := by
          rw [hy]
          by_cases c1 : k = 0
          · rw [if_pos c1]; omega
          · rw [if_neg c1]
            have h1 := hw.1 (k - 1) (by omega)
            exact hPR.carry h1.1 h1.2
        refine bX12_divide_173 ?_
        simp only [Int.toNat_natCast, Option.some.injEq, Prod.mk.injEq, true_and, and_true, exists_eq_left', hk.k3]
        rw [← hxy]
        refine ⟨⟨s, sl.1, by rw [← hPR.2.1]; exact sl.2.2, hyb.1, by rw [← hPR.2.1]; exact hyb.2, ⟨by omega, by omega⟩⟩, by omega, by omega, by omega, fun H' e' => ⟨⟨by omega, by omega⟩, ?_⟩⟩
        have c3 : H' (M + 3) = up1 (G (M + 3)) k (shd (dgs (H (M + 1)) b) P R k) := by rw [e', upA_same]
        have o : ∀ j, j ≠ 3 → H' (M + j) = G (M + j) := fun j hj => by rw [e', upA_ne (by omega)]
        have mM : H' M = G M := o 0 (by omega)
        refine ih (k + 1) (by omega) H' (g1.same (by rw [e']; exact FC.up rfl)) (by rw [mM]; exact g2) (by rw [o 2 (by omega)]; exact g3) (fun j hj => ?_)
        rw [c3]
        by_cases ej : j = k
        · subst ej; rw [up1_same]
        · rw [up1_ne ej]; exact g4 j (by omega)
      refine bX12_divide_114 ⟨fun z => absurd (by omega) z, fun _ => ?_⟩
      simp only [Int.toNat_natCast, Option.some.injEq, Prod.mk.injEq, true_and, and_true, exists_eq_left', hk.k0, g2 1 rfl, g2 4 rfl, hp.p1, hp.p4, hk.k1, gm, ib, ib2, i3, eb]
      rw [← hPR.2.1, ← hPR.2.2, bm_mod]
      refine ⟨by omega, ⟨by omega, by omega⟩, ⟨by omega, by omega⟩, by omega, by omega, by omega, by omega, by omega, fun z => nx 0 (by rw [if_pos (by omega)]), fun z => ⟨fun z0 => nx 0 ?_, fun z0 => ⟨⟨by omega, by omega⟩, by omega, by omega, ⟨by omega, by omega⟩, by omega, by omega, ?_⟩⟩⟩
      · have h1 := hw.1 (k - 1) (by omega)
        rw [if_neg (by omega), cz (by omega) h1.1 h1.2]
      · have e1 : H (M + 1) (b + k) = dgs (H (M + 1)) b (k - 1) := by unfold dgs; rw [show b + 1 + (k - 1) = b + k by omega]
        rw [e1]
        exact nx _ (by rw [if_neg (by omega)])
  intro G g1 g2 g3
  exact byl m 0 (by omega) G (g1.wide rfl) g2 g3 (fun j hj => absurd hj (by omega))
end Div2
