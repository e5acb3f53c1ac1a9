/-! the reference's long division: one step -/
def ofs (f : Nat → Int) (q : Nat) : Nat → Int := fun k => f (q + k)
theorem ofs_up {f : Nat → Int} {q k : Nat} {x : Int} : ofs (up1 f (q + k) x) q = up1 (ofs f q) k x := by
  funext i
  unfold ofs
  by_cases e : i = k
  · subst e; rw [up1_same, up1_same]
  · rw [up1_ne (by omega), up1_ne e]
theorem ring_msub {V U W g c l b f z1 z2 l' z p : Int} (e1 : c + g * b = 1073741824 * z1 + z2) (e2 : z = f - z2 - l + l' * 1073741824) (h : V - (l + c) * p = U - g * W) : V + (z - f) * p + f * p - (l' + z1) * (p * 1073741824) = U + f * p - g * (W + b * p) := by
  have e3 : z2 = c + g * b - 1073741824 * z1 := by omega
  subst e3
  subst e2
  grind
theorem ring_madd {V U W c b f z1 z2 p : Int} (e1 : c + (f + b) = 1073741824 * z1 + z2) (h : V + c * p = U + W) : V + z2 * p + z1 * (p * 1073741824) = U + f * p + (W + b * p) := by
  have e3 : z2 = c + (f + b) - 1073741824 * z1 := by omega
  subst e3
  grind
theorem guess_ok {X W hg lo b p qt : Int} (hp : 0 < p) (hb : 0 < b) (hX : X = hg * p + lo) (hlo : lo < p) (hW : b * p ≤ W) (hq0 : 0 ≤ qt) (hq : qt * W ≤ X) : qt ≤ hg / b := by
  have h1 : qt * (b * p) ≤ qt * W := Int.mul_le_mul_of_nonneg_left hW hq0
  have h2 : qt * (b * p) = qt * b * p := (Int.mul_assoc _ _ _).symm
  have h3 : qt * b * p < (hg + 1) * p := by
    have : (hg + 1) * p = hg * p + p := by rw [Int.add_mul, Int.one_mul]
    omega
  have h4 : qt * b < hg + 1 := by
    rcases Int.lt_or_le (qt * b) (hg + 1) with z | z
    · exact z
    · have := Int.mul_le_mul_of_nonneg_right z (Int.le_of_lt hp)
      omega
  exact (Int.le_ediv_iff_mul_le hb).mpr (by omega)
theorem mod_pow30 (x : Int) : (x * 1073741824) % ((2 ^ 30 : Nat) : Int) = 0 := by
  have : ((2 ^ 30 : Nat) : Int) = 1073741824 := by decide
  rw [this]
  omega
section Step
variable {d : Nat} {K : Shp} {H : Mem} {M : Nat} {q : Int → Mem → Prop}
/-- adding back until nothing is below 0 -/
theorem step_back {p m : Nat} {X W : Int} (hk : RefS K M) (hp : RefP (H M) M) (hpm : p + m < 100) (hb : D30 (H (M + 3)) m) (hW : vB (H (M + 3)) m = W) (hX : 0 ≤ X) (hWp : 0 < W) (hWb : W ≤ 1073741824 ^ m)
    (hq : ∀ H' g, FC M [2] H H' → (∀ j, j < p ∨ p + m < j → H' (M + 2) j = H (M + 2) j) → D30 (ofs (H' (M + 2)) p) m → H' (M + 2) (p + m) = 0 → 0 ≤ g → g < 1073741824 → vB (ofs (H' (M + 2)) p) m = X - g * W → vB (ofs (H' (M + 2)) p) m < W → q g H') :
    ∀ (g : Nat), (g : Int) < 1073741824 → ∀ (G : Mem) (l : Int), FC M [2] H G → (∀ j, j < p ∨ p + m ≤ j → G (M + 2) j = H (M + 2) j) → D30 (ofs (G (M + 2)) p) m → -2147483648 ≤ l → l ≤ 2147483648 → vB (ofs (G (M + 2)) p) m + l * 1073741824 ^ m = X - (g : Int) * W → X - (g : Int) * W < W → FX12_step_157 d K G q (M : Int) (p : Int) (m : Int) (g : Int) l := by
  intro g
  induction g with
  | zero =>
    intro hg G l g1 g2 g3 l0 l1 g4 g5
    have b1 := vB_nonneg g3
    have b2 := vB_lt g3
    have bp := bpos m
    have hl : 0 ≤ l := by
      rcases Int.lt_or_le l 0 with z | z
      · exfalso
        have := Int.mul_le_mul_of_nonneg_right (show l ≤ -1 by omega) (Int.le_of_lt bp)
        simp at g4
        omega
      · exact z
    have hl2 : l = 0 := by
      rcases (show l = 0 ∨ 1 ≤ l by omega) with z | z
      · exact z
      · exfalso
        have := Int.mul_le_mul_of_nonneg_right z (Int.le_of_lt bp)
        omega
    subst hl2
    have gM := g1.self rfl
    have ix : ((p : Int) + (m : Int)).toNat = p + m := by omega
    refine bX12_step_157 ⟨fun _ => ?_, fun z => absurd z (by omega)⟩
    simp only [Int.toNat_natCast, Option.some.injEq, Prod.mk.injEq, true_and, and_true, exists_eq_left', hk.k0, gM, hp.p3, hk.k2, ix]
    refine ⟨by omega, ⟨by omega, by omega⟩, ⟨by omega, by omega⟩, by omega, by omega, by omega, fun H' e' => ⟨⟨by omega, by omega⟩, ?_⟩⟩
    have o : ∀ j, j ≠ p + m → H' (M + 2) j = G (M + 2) j := fun j hj => by rw [e', upA_same, up1_ne hj]
    have eo : ∀ j, j < m → ofs (H' (M + 2)) p j = ofs (G (M + 2)) p j := fun j hj => o _ (by omega)
    refine hq H' 0 (g1.same (by rw [e']; exact FC.up rfl)) (fun j hj => by rw [o j (by omega), g2 j (by omega)]) (fun j hj => by rw [eo j hj]; exact g3 j hj) (by rw [e', upA_same, up1_same]) (by omega) (by omega) ?_ ?_
    · rw [vB_congr eo]; simp at g4 ⊢; omega
    · rw [vB_congr eo]; omega
  | succ g ih =>
    intro hg G l g1 g2 g3 l0 l1 g4 g5
    have b1 := vB_nonneg g3
    have b2 := vB_lt g3
    have bp := bpos m
    have gM := g1.self rfl
    have gb := g1.at 3 rfl
    by_cases hl : l < 0
    · refine bX12_step_157 ⟨fun z => absurd hl z, fun _ => ⟨⟨by omega, by omega⟩, ?_⟩⟩
      rw [show ((g + 1 : Nat) : Int) - 1 = (g : Int) by omega]
      have eg : ((g + 1 : Nat) : Int) * W = (g : Int) * W + W := by rw [Int.natCast_succ, Int.add_mul, Int.one_mul]
      have loop : ∀ (r k : Nat), k + r = m → ∀ (G' : Mem) (c : Int), FC M [2] H G' → (∀ j, j < p ∨ p + m ≤ j → G' (M + 2) j = H (M + 2) j) → (∀ j, k ≤ j → ofs (G' (M + 2)) p j = ofs (G (M + 2)) p j) → D30 (ofs (G' (M + 2)) p) k → 0 ≤ c → c ≤ 1 → vB (ofs (G' (M + 2)) p) k + c * 1073741824 ^ k = vB (ofs (G (M + 2)) p) k + vB (H (M + 3)) k → FX12_step_176 d K G' q (M : Int) (p : Int) (m : Int) (g : Int) l c (k : Int) := by
        intro r
        induction r with
        | zero =>
          intro k hkr G' c a1 a2 a3 a4 c0 c1 a5
          have ek : k = m := by omega
          subst ek
          refine bX12_step_176 ⟨fun _ => ⟨⟨by omega, by omega⟩, ?_⟩, fun z => absurd z (by omega)⟩
          refine ih (by omega) G' (l + c) a1 a2 a4 (by omega) (by omega) ?_ ?_
          · rw [hW] at a5
            rw [Int.add_mul]
            omega
          · have h1 := Int.mul_le_mul_of_nonneg_right (show l ≤ -1 by omega) (Int.le_of_lt bp)
            omega
        | succ r ih2 =>
          intro k hkr G' c a1 a2 a3 a4 c0 c1 a5
          have hf := g3 k (by omega)
          have hbk := hb k (by omega)
          have aM := a1.self rfl
          have ab := a1.at 3 rfl
          have ix : ((p : Int) + (k : Int)).toNat = p + k := by omega
          have ef : G' (M + 2) (p + k) = ofs (G (M + 2)) p k := a3 k (Nat.le_refl k)
          refine bX12_step_176 ⟨fun z => absurd (by omega) z, fun _ => ?_⟩
          simp only [Int.toNat_natCast, Option.some.injEq, Prod.mk.injEq, true_and, and_true, exists_eq_left', hk.k0, aM, hp.p3, hk.k2, ix, hp.p4, hk.k3, ab, ef]
          refine ⟨by omega, ⟨by omega, by omega⟩, by omega, by omega, by omega, by omega, by omega, by omega, ⟨by omega, by omega⟩, ⟨by omega, by omega⟩, ⟨by omega, by omega⟩, fun H' e' => ⟨by omega, ⟨by omega, by omega⟩, ?_⟩⟩
          have ed : ofs (H' (M + 2)) p = up1 (ofs (G' (M + 2)) p) k ((c + (ofs (G (M + 2)) p k + H (M + 3) k)) % 1073741824) := by rw [e', upA_same, ofs_up]
          refine ih2 (k + 1) (by omega) H' _ (a1.same (by rw [e']; exact FC.up rfl)) (fun j hj => by rw [e', upA_same, up1_ne (by omega), a2 j hj]) (fun j hj => by rw [ed, up1_ne (by omega)]; exact a3 j (by omega)) (by rw [ed]; exact a4.up (by omega) (by omega)) (by omega) (by omega) ?_
          rw [ed, vB_step, bsucc]
          simp only [vB]
          exact ring_madd (Int.mul_ediv_add_emod _ _).symm a5
      exact loop m 0 (by omega) G 0 g1 g2 (fun _ _ => rfl) (fun j hj => absurd hj (by omega)) (by omega) (by omega) (by simp [vB])
    · have hl2 : l = 0 := by
        rcases (show l = 0 ∨ 1 ≤ l by omega) with z | z
        · exact z
        · exfalso
          have := Int.mul_le_mul_of_nonneg_right z (Int.le_of_lt bp)
          omega
      subst hl2
      have ix : ((p : Int) + (m : Int)).toNat = p + m := by omega
      refine bX12_step_157 ⟨fun _ => ?_, fun z => absurd z (by omega)⟩
      simp only [Int.toNat_natCast, Option.some.injEq, Prod.mk.injEq, true_and, and_true, exists_eq_left', hk.k0, gM, hp.p3, hk.k2, ix]
      refine ⟨by omega, ⟨by omega, by omega⟩, ⟨by omega, by omega⟩, by omega, by omega, by omega, fun H' e' => ⟨⟨by omega, by omega⟩, ?_⟩⟩
      have o : ∀ j, j ≠ p + m → H' (M + 2) j = G (M + 2) j := fun j hj => by rw [e', upA_same, up1_ne hj]
      have eo : ∀ j, j < m → ofs (H' (M + 2)) p j = ofs (G (M + 2)) p j := fun j hj => o _ (by omega)
      refine hq H' _ (g1.same (by rw [e']; exact FC.up rfl)) (fun j hj => by rw [o j (by omega), g2 j (by omega)]) (fun j hj => by rw [eo j hj]; exact g3 j hj) (by rw [e', upA_same, up1_same]) (by omega) hg ?_ ?_
      · rw [vB_congr eo]; omega
      · rw [vB_congr eo]; omega
theorem vB_top {f : Nat → Int} {n : Nat} : vB f (n + 1) = vB f n + f n * 1073741824 ^ n := rfl
set_option maxHeartbeats 1000000 in
theorem sp_X12_step {p m : Nat} {X W : Int} (hk : RefS K M) (hp : RefP (H M) M) (hm : 0 < m) (hpm : p + m < 100) (hf : D30 (ofs (H (M + 2)) p) (m + 1)) (hb : D30 (H (M + 3)) m) (hbt : 0 < H (M + 3) (m - 1)) (hW : vB (H (M + 3)) m = W) (hX : vB (ofs (H (M + 2)) p) (m + 1) = X) (hlt : X < W * 1073741824)
    (hq : ∀ H' g, FC M [2] H H' → (∀ j, j < p ∨ p + m < j → H' (M + 2) j = H (M + 2) j) → D30 (ofs (H' (M + 2)) p) m → H' (M + 2) (p + m) = 0 → 0 ≤ g → g < 1073741824 → vB (ofs (H' (M + 2)) p) m = X - g * W → vB (ofs (H' (M + 2)) p) m < W → q g H') : Ci mX12_step (d + 1) [(2, (M : Int)), (0, (p : Int)), (0, (m : Int))] K H q := by
  obtain ⟨m', rfl⟩ : ∃ m', m = m' + 1 := ⟨m - 1, by omega⟩
  simp only [Nat.add_sub_cancel] at hbt
  have hWp : 0 < W := by
    have h1 := vB_nonneg (hb.less (Nat.le_succ m'))
    have h2 := Int.mul_pos hbt (bpos m')
    rw [vB_top] at hW
    omega
  have hWb : W ≤ 1073741824 ^ (m' + 1) := by have := vB_lt hb; omega
  have hX0 : 0 ≤ X := by rw [← hX]; exact vB_nonneg hf
  have f1 := hf (m' + 1) (by omega)
  have f2 := hf m' (by omega)
  have b1 := hb m' (by omega)
  have i1 : ((p : Int) + ((m' + 1 : Nat) : Int)).toNat = p + (m' + 1) := by omega
  have i2 : ((p : Int) + ((m' + 1 : Nat) : Int) - 1).toNat = p + m' := by omega
  have i3 : (((m' + 1 : Nat) : Int) - 1).toNat = m' := by omega
  have e1 : H (M + 2) (p + (m' + 1)) = ofs (H (M + 2)) p (m' + 1) := rfl
  have e2 : H (M + 2) (p + m') = ofs (H (M + 2)) p m' := rfl
  refine eX12_step fun _ _ _ => bX12_step_0 ?_
  simp only [Int.toNat_natCast, Option.some.injEq, Prod.mk.injEq, true_and, and_true, exists_eq_left', hk.k0, hp.p3, hk.k2, hp.p4, hk.k3, i1, i2, i3, e1, e2]
  have hh : 0 ≤ ofs (H (M + 2)) p (m' + 1) * 1073741824 + ofs (H (M + 2)) p m' := by omega
  have p30 : ((2 ^ 30 : Nat) : Int) = 1073741824 := by decide
  rw [tdiv_pos hh]
  have hgd := Int.ediv_nonneg hh (Int.le_of_lt hbt)
  have hgm : (ofs (H (M + 2)) p (m' + 1) * 1073741824 + ofs (H (M + 2)) p m') / H (M + 3) m' ≤ ofs (H (M + 2)) p (m' + 1) * 1073741824 + ofs (H (M + 2)) p m' := Int.ediv_le_self _ hh
  refine ⟨by omega, ⟨by omega, by omega⟩, by omega, by omega, by omega, ⟨by omega, by omega⟩, ⟨by omega, by omega⟩, by omega, by omega, ⟨30, by omega, mod_pow30 _, by omega, by rw [p30]; omega, ⟨by omega, by omega⟩⟩, ⟨by omega, by omega⟩, by omega, by omega, by omega, by omega, ⟨by omega, by omega⟩, ?_⟩
  generalize hG : min ((ofs (H (M + 2)) p (m' + 1) * 1073741824 + ofs (H (M + 2)) p m') / H (M + 3) m') 1073741823 = gs
  have gs0 : 0 ≤ gs := by omega
  have gs1 : gs < 1073741824 := by omega
  have hover : X - gs * W < W := by
    have q0 := Int.ediv_nonneg hX0 (Int.le_of_lt hWp)
    have q1 : X / W * W ≤ X := Int.ediv_mul_le _ (by omega)
    have q2 : X < (X / W + 1) * W := Int.lt_ediv_add_one_mul_self _ hWp
    have q3 : X / W < 1073741824 := (Int.ediv_lt_iff_lt_mul hWp).mpr (by rw [Int.mul_comm]; exact hlt)
    have q4 : X / W ≤ (ofs (H (M + 2)) p (m' + 1) * 1073741824 + ofs (H (M + 2)) p m') / H (M + 3) m' := by
      refine guess_ok (X := X) (W := W) (lo := vB (ofs (H (M + 2)) p) m') (bpos m') hbt ?_ (vB_lt (hf.less (by omega))) ?_ q0 q1
      · rw [← hX, vB_top, vB_top, bsucc]
        generalize (1073741824 : Int) ^ m' = pw
        grind
      · rw [← hW, vB_top]
        have := vB_nonneg (hb.less (Nat.le_succ m'))
        omega
    have q5 : X / W ≤ gs := by omega
    have q6 : (X / W + 1) * W = X / W * W + W := by rw [Int.add_mul, Int.one_mul]
    have q7 := Int.mul_le_mul_of_nonneg_right q5 (Int.le_of_lt hWp)
    omega
  obtain ⟨g, rfl⟩ : ∃ g : Nat, gs = (g : Int) := ⟨gs.toNat, by omega⟩
  have loop : ∀ (r k : Nat), k + r = m' + 1 → ∀ (G : Mem) (c l : Int), FC M [2] H G → (∀ j, j < p ∨ p + (m' + 1) ≤ j → G (M + 2) j = H (M + 2) j) → (∀ j, k ≤ j → ofs (G (M + 2)) p j = ofs (H (M + 2)) p j) → D30 (ofs (G (M + 2)) p) k → 0 ≤ c → c < 1073741824 → 0 ≤ l → l ≤ 1 → vB (ofs (G (M + 2)) p) k - (l + c) * 1073741824 ^ k = vB (ofs (H (M + 2)) p) k - (g : Int) * vB (H (M + 3)) k → FX12_step_53 d K G q (M : Int) (p : Int) ((m' + 1 : Nat) : Int) (g : Int) c l (k : Int) := by
    intro r
    induction r with
    | zero =>
      intro k hkr G c l a1 a2 a3 a4 c0 c1 l0 l1 a5
      have ek : k = m' + 1 := by omega
      subst ek
      have aM := a1.self rfl
      have et : G (M + 2) (p + (m' + 1)) = ofs (H (M + 2)) p (m' + 1) := a2 _ (by omega)
      refine bX12_step_53 ⟨fun _ => ?_, fun z => absurd z (by omega)⟩
      simp only [Int.toNat_natCast, Option.some.injEq, Prod.mk.injEq, true_and, and_true, exists_eq_left', hk.k0, aM, hp.p3, hk.k2, i1, et]
      refine ⟨by omega, ⟨by omega, by omega⟩, by omega, by omega, by omega, ⟨by omega, by omega⟩, ⟨by omega, by omega⟩, ?_⟩
      refine step_back (X := X) (W := W) hk hp hpm hb hW hX0 hWp hWb hq g gs1 G _ a1 a2 a4 (by omega) (by omega) ?_ hover
      rw [hW] at a5
      rw [← hX, vB_top (f := ofs (H (M + 2)) p) (n := m' + 1), Int.sub_mul, Int.sub_mul]
      rw [Int.add_mul] at a5
      omega
    | succ r ih =>
      intro k hkr G c l a1 a2 a3 a4 c0 c1 l0 l1 a5
      have hfk := hf k (by omega)
      have hbk := hb k (by omega)
      have aM := a1.self rfl
      have ab := a1.at 3 rfl
      have ix : ((p : Int) + (k : Int)).toNat = p + k := by omega
      have ef : G (M + 2) (p + k) = ofs (H (M + 2)) p k := a3 k (Nat.le_refl k)
      have pb := prod_bd gs0 gs1 hbk.1 hbk.2
      refine bX12_step_53 ⟨fun z => absurd (by omega) z, fun _ => ?_⟩
      simp only [Int.toNat_natCast, Option.some.injEq, Prod.mk.injEq, true_and, and_true, exists_eq_left', hk.k0, aM, hp.p3, hk.k2, ix, hp.p4, hk.k3, ab, ef]
      generalize hP : (g : Int) * H (M + 3) k = P at *
      have nx : ∀ l' : Int, (l' = if ofs (H (M + 2)) p k - (c + P) % 1073741824 - l < 0 then 1 else 0) → ∀ H', H' = upA G (M + 2) (up1 (G (M + 2)) (p + k) ((ofs (H (M + 2)) p k - (c + P) % 1073741824 - l) % 1073741824)) → FX12_step_53 d K H' q (M : Int) (p : Int) ((m' + 1 : Nat) : Int) (g : Int) ((c + P) / 1073741824) l' ((k : Int) + 1) := by
        intro l' hl' H' e'
        have ed : ofs (H' (M + 2)) p = up1 (ofs (G (M + 2)) p) k ((ofs (H (M + 2)) p k - (c + P) % 1073741824 - l) % 1073741824) := by rw [e', upA_same, ofs_up]
        have hl2 : l' = 0 ∨ l' = 1 := by rw [hl']; split <;> omega
        refine ih (k + 1) (by omega) H' _ l' (a1.same (by rw [e']; exact FC.up rfl)) (fun j hj => by rw [e', upA_same, up1_ne (by omega), a2 j hj]) (fun j hj => by rw [ed, up1_ne (by omega)]; exact a3 j (by omega)) (by rw [ed]; exact a4.up (by omega) (by omega)) (by omega) (by omega) (by omega) (by omega) ?_
        rw [ed, vB_step, bsucc]
        simp only [vB]
        have := ring_msub (V := vB (ofs (G (M + 2)) p) k) (U := vB (ofs (H (M + 2)) p) k) (W := vB (H (M + 3)) k) (g := (g : Int)) (c := c) (l := l) (b := H (M + 3) k) (f := ofs (H (M + 2)) p k) (z1 := (c + P) / 1073741824) (z2 := (c + P) % 1073741824) (l' := l') (z := (ofs (H (M + 2)) p k - (c + P) % 1073741824 - l) % 1073741824) (p := 1073741824 ^ k) (by rw [hP]; exact (Int.mul_ediv_add_emod _ _).symm) (by rw [hl']; split <;> omega) a5
        rw [Int.sub_mul] at this
        omega
      refine ⟨by omega, by omega, by omega, by omega, ⟨by omega, by omega⟩, ⟨by omega, by omega⟩, ⟨by omega, by omega⟩, by omega, by omega, by omega, ⟨by omega, by omega⟩, ⟨by omega, by omega⟩, by omega, fun z => ⟨⟨by omega, by omega⟩, fun H' e' => ⟨⟨by omega, by omega⟩, nx 0 (by rw [if_neg z]) H' e'⟩⟩, fun z => ⟨⟨by omega, by omega⟩, fun H' e' => ⟨⟨by omega, by omega⟩, nx 1 (by rw [if_pos z]) H' e'⟩⟩⟩
  exact loop (m' + 1) 0 (by omega) H 0 0 FC.rf (fun _ _ => rfl) (fun _ _ => rfl) (fun j hj => absurd hj (by omega)) (by omega) (by omega) (by omega) (by omega) (by simp [vB])
end Step
