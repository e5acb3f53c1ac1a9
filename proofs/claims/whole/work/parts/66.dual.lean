/-! what a stronger ROD does: nothing is taken away -/
theorem gain_add {r1 r2 S1 S2 : Nat → Int} {p q : Int} : ∀ (n k : Nat), gain (fun j => r1 j + r2 j) (fun j => S1 j + S2 j) p q n k = gain r1 S1 p q n k + gain r2 S2 p q n k
  | 0, k => by
    simp only [gain]
    rw [Int.mul_add, Int.add_mul]
  | n + 1, k => by
    simp only [gain]
    rw [gain_add n (k + 1), Int.mul_add, Int.add_mul, Int.add_mul]
    omega
theorem gain_congr {r1 r2 S1 S2 : Nat → Int} {p q : Int} : ∀ (n k : Nat), (∀ j, k ≤ j → j ≤ k + n → r1 j = r2 j ∧ S1 j = S2 j) → gain r1 S1 p q n k = gain r2 S2 p q n k
  | 0, k, h => by simp only [gain]; rw [(h k (by omega) (by omega)).1]
  | n + 1, k, h => by
    simp only [gain]
    rw [gain_congr n (k + 1) (fun j h1 h2 => h j (by omega) (by omega)), (h k (by omega) (by omega)).1, (h k (by omega) (by omega)).2]
theorem gain_rod {x p q : Int} {t : Nat} : ∀ (n k : Nat), gain (fun j => if j = t then x else 0) (fun _ => 0) p q n k = if k ≤ t ∧ t ≤ k + n then 2 * q * x * abv p q t else 0
  | 0, k => by
    simp only [gain]
    by_cases h : k = t
    · rw [if_pos h, if_pos (by omega), h]
    · rw [if_neg h, if_neg (by omega)]; simp
  | n + 1, k => by
    simp only [gain]
    rw [gain_rod n (k + 1)]
    by_cases h : k = t
    · rw [if_pos h, if_neg (by omega), if_pos (by omega), h]; simp
    · rw [if_neg h]
      by_cases h2 : k + 1 ≤ t ∧ t ≤ k + 1 + n
      · rw [if_pos h2, if_pos (by omega)]; simp
      · rw [if_neg h2, if_neg (by omega)]; simp
theorem gain_nil {p q : Int} : ∀ (n k : Nat), gain (fun _ => 0) (fun _ => 0) p q n k = 0
  | 0, k => by simp [gain]
  | n + 1, k => by simp only [gain]; rw [gain_nil n (k + 1)]; simp
/-- the level of a ROD -/
def lvR (hi : Int) (h : Int) : Nat := if hi = 0 then h.toNat else (100 - h).toNat
theorem abs_id (x : Int) : 2 * max x 0 - x = max x (-x) := by omega
theorem rhs_rods {z hi p q : Int} {rh us : Nat → Int} {nr : Nat} (hR : RodB rh nr) : ∀ (m : Nat), m ≤ nr → q * q * (sgF hi * (-2 * bnd0 z rh us m)) + 2 * q * sumN us m * (q * armF z hi - p) + gain (rhoF rh us m hi) (fun _ => 0) p q 100 0 = sumN (fun r => 2 * q * us r * max (p - q * (lvR hi (rh r) : Int)) (-(p - q * (lvR hi (rh r) : Int)))) m
  | 0, _ => by
    have e : gain (rhoF rh us 0 hi) (fun _ => 0) p q 100 0 = 0 := (gain_congr 100 0 (fun j _ _ => ⟨rfl, rfl⟩)).trans (gain_nil 100 0)
    rw [e]
    simp [bnd0, sumN]
  | m + 1, hm => by
    have ih := rhs_rods (z := z) (hi := hi) (p := p) (q := q) (us := us) hR m (by omega)
    have hr := hR.2 m (by omega)
    have e : gain (rhoF rh us (m + 1) hi) (fun _ => 0) p q 100 0 = gain (fun j => rhoF rh us m hi j + (if j = lvR hi (rh m) then 2 * us m else 0)) (fun j => 0 + 0) p q 100 0 := by
      refine gain_congr 100 0 (fun j h1 h2 => ⟨?_, rfl⟩)
      unfold rhoF rAt
      simp only [sumN]
      have ec : (rh m = lvH hi j) ↔ (j = lvR hi (rh m)) := by
        unfold lvH lvR
        by_cases h0 : hi = 0
        · rw [if_pos h0, if_pos h0]; omega
        · rw [if_neg h0, if_neg h0]; omega
      by_cases c : rh m = lvH hi j
      · rw [if_pos c, if_pos (ec.mp c)]; omega
      · rw [if_neg c, if_neg (fun q => c (ec.mpr q))]; omega
    have hl : lvR hi (rh m) ≤ 100 := by unfold lvR; split <;> omega
    have ea : armF z hi - (lvR hi (rh m) : Int) = sgF hi * (rh m - z) := by unfold armF lvR sgF; split <;> omega
    rw [e, gain_add (S1 := fun _ => 0) (S2 := fun _ => 0), gain_rod, if_pos (by omega)]
    simp only [sumN]
    rw [← ih]
    have eb : bnd0 z rh us (m + 1) = bnd0 z rh us m + us m * (rh m - z) := rfl
    rw [eb, ← abs_id]
    have ew : abv p q (lvR hi (rh m)) = max (p - q * (lvR hi (rh m) : Int)) 0 := rfl
    rw [ew]
    have e1 : sgF hi * (-2 * (bnd0 z rh us m + us m * (rh m - z))) = sgF hi * (-2 * bnd0 z rh us m) - 2 * us m * (sgF hi * (rh m - z)) := by
      generalize sgF hi = g
      generalize rh m - z = w
      grind
    rw [e1, ← ea]
    generalize sgF hi * (-2 * bnd0 z rh us m) = B0
    generalize gain (rhoF rh us m hi) (fun _ => 0) p q 100 0 = G0
    generalize max (p - q * (lvR hi (rh m) : Int)) 0 = W
    generalize (lvR hi (rh m) : Int) = l
    generalize armF z hi = a
    generalize sumN us m = s
    generalize us m = u
    clear ih e ea eb ew e1 hl
    grind
section Mono
variable {f z : Int} {bw bf bt rh us us' : Nat → Int} {nb nr : Nat} {hi : Int}
/-- the whole right side at a push n -/
theorem rhs_all {p q n : Int} (hR : RodB rh nr) : q * q * (sgF hi * (-2 * bnd0 z rh us nr)) + 2 * q * (n + sumN us nr) * (q * armF z hi - p) + gain (rhoF rh us nr hi) (stF f bw bf bt nb hi) p q 100 0 = 2 * q * n * (q * armF z hi - p) + sumN (fun r => 2 * q * us r * max (p - q * (lvR hi (rh r) : Int)) (-(p - q * (lvR hi (rh r) : Int)))) nr + gain (fun _ => 0) (stF f bw bf bt nb hi) p q 100 0 := by
  have h1 := rhs_rods (z := z) (hi := hi) (p := p) (q := q) (us := us) hR nr (Nat.le_refl _)
  have h2 : gain (rhoF rh us nr hi) (stF f bw bf bt nb hi) p q 100 0 = gain (fun j => rhoF rh us nr hi j + 0) (fun j => 0 + stF f bw bf bt nb hi j) p q 100 0 := gain_congr 100 0 (fun j _ _ => ⟨by omega, by omega⟩)
  rw [h2, gain_add (r2 := fun _ => 0) (S1 := fun _ => 0)]
  rw [← h1]
  generalize gain (rhoF rh us nr hi) (fun _ => 0) p q 100 0 = g1
  generalize gain (fun _ => 0) (stF f bw bf bt nb hi) p q 100 0 = g2
  generalize sgF hi * (-2 * bnd0 z rh us nr) = B
  generalize sumN us nr = s
  generalize armF z hi = a
  grind
theorem max_abs_nn (x : Int) : 0 ≤ max x (-x) := by omega
theorem rhs_mono {p q n : Int} (hq : 0 < q) (hR : RodB rh nr) (hle : ∀ r, r < nr → us r ≤ us' r) : q * q * (sgF hi * (-2 * bnd0 z rh us nr)) + 2 * q * (n + sumN us nr) * (q * armF z hi - p) + gain (rhoF rh us nr hi) (stF f bw bf bt nb hi) p q 100 0 ≤ q * q * (sgF hi * (-2 * bnd0 z rh us' nr)) + 2 * q * (n + sumN us' nr) * (q * armF z hi - p) + gain (rhoF rh us' nr hi) (stF f bw bf bt nb hi) p q 100 0 := by
  rw [rhs_all hR, rhs_all hR]
  have : sumN (fun r => 2 * q * us r * max (p - q * (lvR hi (rh r) : Int)) (-(p - q * (lvR hi (rh r) : Int)))) nr ≤ sumN (fun r => 2 * q * us' r * max (p - q * (lvR hi (rh r) : Int)) (-(p - q * (lvR hi (rh r) : Int)))) nr :=
    sumN_le (fun r hr => Int.mul_le_mul_of_nonneg_right (Int.mul_le_mul_of_nonneg_left (hle r hr) (by omega)) (max_abs_nn _))
  omega
theorem walk_cut {needs N D P Z : Int} (hf : 1 ≤ f) (hB : BandB bw bf bt nb) (h : walkR f z bw bf bt nb rh us nr hi needs = some (N, D, P, Z)) : 0 < Z ∧ 2 * (Z * Z) * N = D * (Z * Z * (sgF hi * (-2 * bnd0 z rh us nr)) + 2 * Z * needs * (Z * armF z hi - P) + gain (rhoF rh us nr hi) (stF f bw bf bt nb hi) P Z 100 0) :=
  ⟨(cut_ge (st_nn hf hB hi) 100 0 needs _ N D P Z h).1, dual_eq (st_nn hf hB hi) 100 0 needs _ N D P Z h⟩
theorem walk_any {p q needs N D P Z : Int} (hq : 0 < q) (hf : 1 ≤ f) (hB : BandB bw bf bt nb) (hS : StrB us nr) (hn : 0 ≤ needs) (h : walkR f z bw bf bt nb rh us nr hi needs = some (N, D, P, Z)) : 0 < D ∧ 2 * (q * q) * N ≤ D * (q * q * (sgF hi * (-2 * bnd0 z rh us nr)) + 2 * q * needs * (q * armF z hi - p) + gain (rhoF rh us nr hi) (stF f bw bf bt nb hi) p q 100 0) :=
  dual_le hq (fun k => rho_nn hS hi k) (fun k => st_nn hf hB hi k) 100 0 needs _ N D P Z h hn
/-- without PUSH the walk's BEND is not below 0 -/
theorem walk_nn {N D P Z : Int} (hf : 1 ≤ f) (hB : BandB bw bf bt nb) (hR : RodB rh nr) (hS : StrB us nr) (hD : 0 < D) (h : walkR f z bw bf bt nb rh us nr hi (sumN us nr) = some (N, D, P, Z)) : 0 ≤ N := by
  obtain ⟨hZ, he⟩ := walk_cut hf hB h
  have e0 : sumN us nr = 0 + sumN us nr := by omega
  rw [e0, rhs_all hR] at he
  have g0 := gain_nonneg (rho := fun _ => 0) (S := stF f bw bf bt nb hi) (p := P) hZ (fun _ => Int.le_refl 0) (st_nn hf hB hi) 100 0
  have s0 : 0 ≤ sumN (fun r => 2 * Z * us r * max (P - Z * (lvR hi (rh r) : Int)) (-(P - Z * (lvR hi (rh r) : Int)))) nr := by
    have := sumN_le (f := fun _ => 0) (g := fun r => 2 * Z * us r * max (P - Z * (lvR hi (rh r) : Int)) (-(P - Z * (lvR hi (rh r) : Int)))) (n := nr) (fun r hr => Int.mul_nonneg (Int.mul_nonneg (by omega) (hS r hr).1) (max_abs_nn _))
    rw [sumN_zero (g := fun _ => 0) (fun _ _ => rfl)] at this
    exact this
  have hr : 0 ≤ 2 * (Z * Z) * N := by
    rw [he]
    exact Int.mul_nonneg (by omega) (by simp; omega)
  rcases Int.lt_or_le N 0 with y | y
  · exfalso
    have hzz := Int.mul_pos hZ hZ
    have := Int.mul_le_mul_of_nonneg_left (show N ≤ -1 by omega) (show 0 ≤ 2 * (Z * Z) by omega)
    omega
  · exact y
/-- a pair that is borne stays borne with stronger RODS -/
theorem bearS_mono {n m : Int} (hf : 1 ≤ f ∧ f ≤ 50) (hB : BandB bw bf bt nb) (hR : RodB rh nr) (hS : StrB us nr) (hS' : StrB us' nr) (hle : ∀ r, r < nr → us r ≤ us' r) (h : bearS f z bw bf bt nb rh us nr hi n m = true) : bearS f z bw bf bt nb rh us' nr hi n m = true := by
  have hs := sumN_le (n := nr) (fun r hr => hle r hr)
  unfold bearS at h ⊢
  rw [Bool.and_eq_true] at h ⊢
  have hr := of_decide_eq_true h.1
  have hr' : -sumN us' nr ≤ n ∧ n ≤ f * areaF bw bf bt nb + sumN us' nr := by omega
  refine ⟨decide_eq_true hr', ?_⟩
  obtain ⟨N, D, P, Z, hW⟩ := walk_some (us := us) (z := z) (hi := hi) (needs := n + sumN us nr) hf.1 hB hR (by omega)
  obtain ⟨N', D', P', Z', hW'⟩ := walk_some (us := us') (z := z) (hi := hi) (needs := n + sumN us' nr) hf.1 hB hR (by omega)
  rw [hW']
  have h2 := h.2
  rw [hW] at h2
  obtain ⟨hZ', he'⟩ := walk_cut hf.1 hB hW'
  obtain ⟨hD, hle1⟩ := walk_any (p := P') (q := Z') hZ' hf.1 hB hS (by omega) hW
  obtain ⟨hD', -⟩ := walk_any (p := P') (q := Z') hZ' hf.1 hB hS' (by omega) hW'
  have hm := rhs_mono (f := f) (z := z) (bw := bw) (bf := bf) (bt := bt) (nb := nb) (hi := hi) (p := P') (q := Z') (n := n) hZ' hR hle
  have hzz : 0 < Z' * Z' := Int.mul_pos hZ' hZ'
  generalize Z' * Z' * (sgF hi * (-2 * bnd0 z rh us nr)) + 2 * Z' * (n + sumN us nr) * (Z' * armF z hi - P') + gain (rhoF rh us nr hi) (stF f bw bf bt nb hi) P' Z' 100 0 = R1 at *
  generalize Z' * Z' * (sgF hi * (-2 * bnd0 z rh us' nr)) + 2 * Z' * (n + sumN us' nr) * (Z' * armF z hi - P') + gain (rhoF rh us' nr hi) (stF f bw bf bt nb hi) P' Z' 100 0 = R2 at *
  have hk : N * D' ≤ N' * D := by
    have k1 : D' * (2 * (Z' * Z') * N) ≤ D' * (D * R2) := Int.mul_le_mul_of_nonneg_left (Int.le_trans hle1 (Int.mul_le_mul_of_nonneg_left hm (by omega))) (by omega)
    have k2 : D' * (D * R2) = D * (2 * (Z' * Z') * N') := by rw [he']; grind
    have k3 : 2 * (Z' * Z') * (N * D') ≤ 2 * (Z' * Z') * (N' * D) := by
      have e1 : D' * (2 * (Z' * Z') * N) = 2 * (Z' * Z') * (N * D') := by
        generalize Z' * Z' = y
        grind
      have e2 : D * (2 * (Z' * Z') * N') = 2 * (Z' * Z') * (N' * D) := by
        generalize Z' * Z' = y
        grind
      omega
    rcases Int.lt_or_le (N' * D) (N * D') with y | y
    · exfalso
      have := Int.mul_lt_mul_of_pos_left y (show 0 < 2 * (Z' * Z') by omega)
      omega
    · exact y
  have key : ∀ x : Int, x * D ≤ N → x * D' ≤ N' := by
    intro x hx
    have y1 := Int.mul_le_mul_of_nonneg_right hx (show 0 ≤ D' by omega)
    have y2 : x * D * D' = D * (x * D') := by grind
    rcases Int.lt_or_le N' (x * D') with y | y
    · exfalso
      have := Int.mul_lt_mul_of_pos_left y hD
      have e3 : N' * D = D * N' := Int.mul_comm _ _
      omega
    · exact y
  unfold onSide at h2 ⊢
  simp only at h2 ⊢
  by_cases h0 : hi = 0
  · rw [if_pos h0] at h2 ⊢
    have g := of_decide_eq_true h2
    apply decide_eq_true
    have es : sgF hi = -1 := by unfold sgF; rw [if_pos h0]
    rw [es] at g ⊢
    have := key (-m) (by rw [Int.neg_mul]; omega)
    rw [Int.neg_mul] at this
    omega
  · rw [if_neg h0] at h2 ⊢
    have g := of_decide_eq_true h2
    apply decide_eq_true
    have es : sgF hi = 1 := by unfold sgF; rw [if_neg h0]
    rw [es] at g ⊢
    have := key m (by omega)
    omega
theorem bearB_mono {n m : Int} (hf : 1 ≤ f ∧ f ≤ 50) (hB : BandB bw bf bt nb) (hR : RodB rh nr) (hS : StrB us nr) (hS' : StrB us' nr) (hle : ∀ r, r < nr → us r ≤ us' r) (h : bearB f z bw bf bt nb rh us nr n m = true) : bearB f z bw bf bt nb rh us' nr n m = true := by
  unfold bearB at h ⊢
  rw [Bool.and_eq_true] at h ⊢
  exact ⟨bearS_mono hf hB hR hS hS' hle h.1, bearS_mono hf hB hR hS hS' hle h.2⟩
end Mono
