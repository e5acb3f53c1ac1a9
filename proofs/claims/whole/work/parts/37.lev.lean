/-! levels: the walk's road from the top or from the foot, over edges -/
theorem mabs {a b A B : Int} (h1 : -A ≤ a) (h2 : a ≤ A) (h3 : -B ≤ b) (h4 : b ≤ B) : -(A * B) ≤ a * b ∧ a * b ≤ A * B := by
  have e1 := Int.mul_nonneg (show 0 ≤ A - a by omega) (show 0 ≤ B + b by omega)
  have e2 := Int.mul_nonneg (show 0 ≤ A + a by omega) (show 0 ≤ B - b by omega)
  have e3 := Int.mul_nonneg (show 0 ≤ A - a by omega) (show 0 ≤ B - b by omega)
  have e4 := Int.mul_nonneg (show 0 ≤ A + a by omega) (show 0 ≤ B + b by omega)
  have f1 : (A - a) * (B + b) + (A + a) * (B - b) = 2 * (A * B) - 2 * (a * b) := by grind
  have f2 : (A - a) * (B - b) + (A + a) * (B + b) = 2 * (A * B) + 2 * (a * b) := by grind
  omega
/-- the height of level k -/
def lvH (hi : Int) (k : Nat) : Int := if hi = 0 then (k : Int) else 100 - k
def rhoF (rh us : Nat → Int) (nr : Nat) (hi : Int) (k : Nat) : Int := 2 * rAt rh us nr (lvH hi k)
def stF (f : Int) (bw bf bt : Nat → Int) (nb : Nat) (hi : Int) (k : Nat) : Int := f * wAt bw bf bt nb (if hi = 0 then (k : Int) else 99 - k)
def armF (z hi : Int) : Int := if hi = 0 then z else 100 - z
def sgF (hi : Int) : Int := if hi = 0 then -1 else 1
def bnd0 (z : Int) (rh us : Nat → Int) (nr : Nat) : Int := sumN (fun r => us r * (rh r - z)) nr
def walkR (f z : Int) (bw bf bt : Nat → Int) (nb : Nat) (rh us : Nat → Int) (nr : Nat) (hi needs : Int) : Option R4 := rw_ (rhoF rh us nr hi) (stF f bw bf bt nb hi) (armF z hi) 100 0 needs (sgF hi * (-2 * bnd0 z rh us nr))
def cutT (hi P Z : Int) : Int := if hi = 0 then P else 100 * Z - P
section Lev
variable {bw bf bt rh us : Nat → Int} {nb nr : Nat}
theorem cnt_flat {y : Nat} : ∀ (n : Nat), (∀ j, j < n → isE bf bt nb rh nr ((y + j : Nat) : Int) = false) → cntE bf bt nb rh nr (y + n) = cntE bf bt nb rh nr y
  | 0, _ => rfl
  | n + 1, h => by
    rw [← Nat.add_assoc, cnt_succ, cnt_flat n (fun j hj => h j (by omega)), h n (by omega)]
    simp
theorem find_up : ∀ (n t : Nat), t + n = 100 → ∃ j, j ≤ n ∧ isE bf bt nb rh nr ((t + j : Nat) : Int) = true ∧ ∀ i, i < j → isE bf bt nb rh nr ((t + i : Nat) : Int) = false := by
  intro n
  induction n with
  | zero =>
    intro t ht
    have e : t = 100 := by omega
    subst e
    exact ⟨0, by omega, isE_100, fun i hi => absurd hi (by omega)⟩
  | succ n ih =>
    intro t ht
    cases h : isE bf bt nb rh nr (t : Int) with
    | true => exact ⟨0, by omega, h, fun i hi => absurd hi (by omega)⟩
    | false =>
      obtain ⟨j, h1, h2, h3⟩ := ih (t + 1) (by omega)
      refine ⟨j + 1, by omega, by rw [show t + (j + 1) = t + 1 + j by omega]; exact h2, fun i hi => ?_⟩
      by_cases e : i = 0
      · subst e; exact h
      · have := h3 (i - 1) (by omega)
        rwa [show t + 1 + (i - 1) = t + i by omega] at this
theorem find_down : ∀ (t : Nat), ∃ j, j ≤ t ∧ isE bf bt nb rh nr ((t - j : Nat) : Int) = true ∧ ∀ i, i < j → isE bf bt nb rh nr ((t - i : Nat) : Int) = false := by
  intro t
  induction t with
  | zero => exact ⟨0, by omega, isE_0, fun i hi => absurd hi (by omega)⟩
  | succ t ih =>
    cases h : isE bf bt nb rh nr ((t + 1 : Nat) : Int) with
    | true => exact ⟨0, by omega, h, fun i hi => absurd hi (by omega)⟩
    | false =>
      obtain ⟨j, h1, h2, h3⟩ := ih
      refine ⟨j + 1, by omega, by rw [show t + 1 - (j + 1) = t - j by omega]; exact h2, fun i hi => ?_⟩
      by_cases e : i = 0
      · subst e; exact h
      · have := h3 (i - 1) (by omega)
        rwa [show t - (i - 1) = t + 1 - i by omega] at this
theorem wAt_flat {y : Int} (h : isE bf bt nb rh nr (y + 1) = false) : wAt bw bf bt nb (y + 1) = wAt bw bf bt nb y := by
  refine sumN_congr (fun b hb => ?_)
  have h1 : ¬ (bf b = y + 1 ∨ bt b = y + 1) := fun q => by
    have := isE_iff.mpr (Or.inr (Or.inl ⟨b, hb, q⟩) : (y + 1 = 0 ∨ y + 1 = 100) ∨ (∃ b, b < nb ∧ (bf b = y + 1 ∨ bt b = y + 1)) ∨ ∃ r, r < nr ∧ rh r = y + 1)
    rw [h] at this
    cases this
  by_cases c : bf b ≤ y ∧ y < bt b
  · rw [if_pos c, if_pos (by omega)]
  · rw [if_neg c, if_neg (by omega)]
theorem wAt_const {y : Int} : ∀ (n : Nat), (∀ i : Nat, 0 < i → i ≤ n → isE bf bt nb rh nr (y + i) = false) → wAt bw bf bt nb (y + n) = wAt bw bf bt nb y
  | 0, _ => by simp
  | n + 1, h => by
    have h1 := h (n + 1) (by omega) (by omega)
    have e : y + ((n + 1 : Nat) : Int) = y + n + 1 := by omega
    rw [e] at h1 ⊢
    rw [wAt_flat h1, wAt_const n (fun i h1 h2 => h i h1 (by omega))]
theorem rAt_none {y : Int} (h : isE bf bt nb rh nr y = false) : rAt rh us nr y = 0 := by
  refine sumN_zero (fun r hr => ?_)
  rw [if_neg]
  intro q
  have := isE_iff.mpr (Or.inr (Or.inr ⟨r, hr, q⟩) : (y = 0 ∨ y = 100) ∨ (∃ b, b < nb ∧ (bf b = y ∨ bt b = y)) ∨ ∃ r, r < nr ∧ rh r = y)
  rw [h] at this
  cases this
/-- the number of the edge at level l -/
def idxL (bf bt : Nat → Int) (nb : Nat) (rh : Nat → Int) (nr : Nat) (hi : Int) (l : Nat) : Nat := cntE bf bt nb rh nr (if hi = 0 then l else 100 - l)
/-- from an edge to the next -/
theorem next_lev {f : Int} (hi : Int) {l : Nat} (hl : l < 100) (he : isE bf bt nb rh nr (lvH hi l) = true) : ∃ len, 0 < len ∧ l + len ≤ 100 ∧ isE bf bt nb rh nr (lvH hi (l + len)) = true ∧ (∀ j, 0 < j → j < len → rhoF rh us nr hi (l + j) = 0) ∧
    (∀ j, j < len → stF f bw bf bt nb hi (l + j) = f * wAt bw bf bt nb (min (lvH hi l) (lvH hi (l + len)))) ∧ (if hi = 0 then idxL bf bt nb rh nr hi (l + len) = idxL bf bt nb rh nr hi l + 1 else idxL bf bt nb rh nr hi l = idxL bf bt nb rh nr hi (l + len) + 1) := by
  by_cases h0 : hi = 0
  · subst h0
    obtain ⟨j, h1, h2, h3⟩ := find_up (bf := bf) (bt := bt) (rh := rh) (nb := nb) (nr := nr) (99 - l) (l + 1) (by omega)
    have el : ∀ k : Nat, lvH 0 k = (k : Int) := fun k => by unfold lvH; rw [if_pos rfl]
    rw [el] at he
    have hno : ∀ i : Nat, 0 < i → i < j + 1 → isE bf bt nb rh nr ((l + i : Nat) : Int) = false := fun i a b => by
      have := h3 (i - 1) (by omega)
      rwa [show l + 1 + (i - 1) = l + i by omega] at this
    refine ⟨j + 1, by omega, by omega, ?_, ?_, ?_, ?_⟩
    · rw [el, show l + (j + 1) = l + 1 + j by omega]; exact h2
    · intro i a b
      unfold rhoF
      rw [el, rAt_none (hno i a b)]; rfl
    · intro i a
      unfold stF
      rw [if_pos rfl, el, el, show min (l : Int) ((l + (j + 1) : Nat) : Int) = (l : Int) by omega]
      congr 1
      rw [Int.natCast_add]
      exact wAt_const (rh := rh) (nr := nr) i (fun i' a' b' => by
        have := hno i' a' (by omega)
        rwa [Int.natCast_add] at this)
    · rw [if_pos rfl]
      unfold idxL
      rw [if_pos rfl, if_pos rfl, show l + (j + 1) = l + 1 + j by omega, cnt_flat j h3, cnt_succ, if_pos he]
  · obtain ⟨j, h1, h2, h3⟩ := find_down (bf := bf) (bt := bt) (rh := rh) (nb := nb) (nr := nr) (99 - l)
    have el : ∀ k : Nat, lvH hi k = 100 - (k : Int) := fun k => by unfold lvH; rw [if_neg h0]
    rw [el] at he
    have hno : ∀ i : Nat, i < j → isE bf bt nb rh nr (100 - (l : Int) - 1 - i) = false := fun i b => by
      have := h3 i b
      rwa [show ((99 - l - i : Nat) : Int) = 100 - (l : Int) - 1 - i by omega] at this
    refine ⟨j + 1, by omega, by omega, ?_, ?_, ?_, ?_⟩
    · rw [el, show 100 - ((l + (j + 1) : Nat) : Int) = ((99 - l - j : Nat) : Int) by omega]; exact h2
    · intro i a b
      unfold rhoF
      have := hno (i - 1) (by omega)
      rw [show 100 - (l : Int) - 1 - ((i - 1 : Nat) : Int) = 100 - ((l + i : Nat) : Int) by omega] at this
      rw [el, rAt_none this]; rfl
    · intro i a
      unfold stF
      rw [if_neg h0, el, el, show min (100 - (l : Int)) (100 - ((l + (j + 1) : Nat) : Int)) = 100 - ((l + (j + 1) : Nat) : Int) by omega]
      congr 1
      rw [show 99 - ((l + i : Nat) : Int) = 100 - ((l + (j + 1) : Nat) : Int) + ((j - i : Nat) : Int) by omega]
      exact wAt_const (rh := rh) (nr := nr) (j - i) (fun i' a' b' => by
        have := hno (j - i') (by omega)
        rwa [show 100 - (l : Int) - 1 - ((j - i' : Nat) : Int) = 100 - ((l + (j + 1) : Nat) : Int) + (i' : Int) by omega] at this)
    · rw [if_neg h0]
      unfold idxL
      rw [if_neg h0, if_neg h0, show 100 - (l + (j + 1)) = 99 - l - j by omega]
      have e1 : 100 - l = 99 - l - j + (j + 1) := by omega
      rw [e1, show 99 - l - j + (j + 1) = (99 - l - j + 1) + j by omega, cnt_flat j (fun i hi => by
        have := hno (j - 1 - i) (by omega)
        rwa [show 100 - (l : Int) - 1 - ((j - 1 - i : Nat) : Int) = ((99 - l - j + 1 + i : Nat) : Int) by omega] at this), cnt_succ, if_pos h2]
end Lev
/-- what the walk can take from level k on -/
def capR (rho S : Nat → Int) : Nat → Nat → Int
  | 0, k => rho k
  | n + 1, k => rho k + S k + capR rho S n (k + 1)
theorem rw_some {rho S : Nat → Int} {a : Int} (hS : ∀ k, 0 ≤ S k) : ∀ (n k : Nat) (needs B : Int), needs ≤ capR rho S n k → ∃ N D P Z, rw_ rho S a n k needs B = some (N, D, P, Z) := by
  intro n
  induction n with
  | zero =>
    intro k needs B h
    exact ⟨_, _, _, _, rw_rod h⟩
  | succ n ih =>
    intro k needs B h
    by_cases h1 : needs ≤ rho k
    · exact ⟨_, _, _, _, rw_rod h1⟩
    · rw [rw_pass h1]
      unfold strip
      by_cases h2 : 0 < S k ∧ needs - rho k ≤ S k
      · rw [if_pos h2]; exact ⟨_, _, _, _, rfl⟩
      · rw [if_neg h2]
        simp only [capR] at h
        exact ih (k + 1) _ _ (by omega)
theorem capR_add {r1 r2 S1 S2 : Nat → Int} : ∀ (n k : Nat), capR (fun j => r1 j + r2 j) (fun j => S1 j + S2 j) n k = capR r1 S1 n k + capR r2 S2 n k
  | 0, k => rfl
  | n + 1, k => by
    simp only [capR]
    rw [capR_add n (k + 1)]
    omega
theorem capR_congr {r1 r2 S1 S2 : Nat → Int} : ∀ (n k : Nat), (∀ j, k ≤ j → j ≤ k + n → r1 j = r2 j ∧ S1 j = S2 j) → capR r1 S1 n k = capR r2 S2 n k
  | 0, k, h => (h k (by omega) (by omega)).1
  | n + 1, k, h => by
    simp only [capR]
    rw [capR_congr n (k + 1) (fun j h1 h2 => h j (by omega) (by omega)), (h k (by omega) (by omega)).1, (h k (by omega) (by omega)).2]
/-- one ROD at level t: found once -/
theorem capR_rod {u : Int} {t : Nat} : ∀ (n k : Nat), capR (fun j => if j = t then u else 0) (fun _ => 0) n k = if k ≤ t ∧ t ≤ k + n then u else 0
  | 0, k => by
    simp only [capR]
    by_cases h : k = t
    · rw [if_pos h, if_pos (by omega)]
    · rw [if_neg h, if_neg (by omega)]
  | n + 1, k => by
    simp only [capR]
    rw [capR_rod n (k + 1)]
    by_cases h : k = t
    · rw [if_pos h, if_neg (by omega), if_pos (by omega)]; omega
    · rw [if_neg h]
      by_cases h2 : k + 1 ≤ t ∧ t ≤ k + 1 + n
      · rw [if_pos h2, if_pos (by omega)]; omega
      · rw [if_neg h2, if_neg (by omega)]; omega
/-- one BAND from level p to level t -/
theorem capR_band {w : Int} {p t : Nat} : ∀ (n k : Nat), p ≤ t → t ≤ k + n → capR (fun _ => 0) (fun j => if p ≤ j ∧ j < t then w else 0) n k = w * ((t - max p k : Nat) : Int)
  | 0, k, h1, h2 => by
    simp only [capR]
    rw [show t - max p k = 0 by omega]
    simp
  | n + 1, k, h1, h2 => by
    simp only [capR]
    rw [capR_band n (k + 1) h1 (by omega)]
    by_cases h : p ≤ k ∧ k < t
    · rw [if_pos h, show t - max p k = (t - max p (k + 1)) + 1 by omega, Int.natCast_succ, Int.mul_add]; omega
    · rw [if_neg h, show t - max p k = t - max p (k + 1) by omega]; omega
theorem capR_zero {rho S : Nat → Int} (h1 : ∀ k, rho k = 0) (h2 : ∀ k, S k = 0) : ∀ (n k : Nat), capR rho S n k = 0
  | 0, k => h1 k
  | n + 1, k => by
    simp only [capR]
    rw [capR_zero h1 h2 n (k + 1), h1, h2]; rfl
section Tot
variable {bw bf bt rh us : Nat → Int}
theorem cap_rods {nr : Nat} (hi : Int) : ∀ (m : Nat), m ≤ nr → RodB rh nr → capR (rhoF rh us m hi) (fun _ => 0) 100 0 = 2 * sumN us m
  | 0, _, _ => capR_zero (fun k => rfl) (fun _ => rfl) 100 0
  | m + 1, hm, hR => by
    have ih := cap_rods (nr := nr) hi m (by omega) hR
    have hr := hR.2 m (by omega)
    have e : capR (rhoF rh us (m + 1) hi) (fun _ => 0) 100 0 = capR (fun j => rhoF rh us m hi j + (if j = (if hi = 0 then (rh m).toNat else (100 - rh m).toNat) then 2 * us m else 0)) (fun j => 0 + 0) 100 0 := by
      refine capR_congr 100 0 (fun j h1 h2 => ⟨?_, rfl⟩)
      unfold rhoF rAt
      simp only [sumN]
      have ec : (rh m = lvH hi j) ↔ (j = (if hi = 0 then (rh m).toNat else (100 - rh m).toNat)) := by
        unfold lvH
        by_cases h0 : hi = 0
        · rw [if_pos h0, if_pos h0]; omega
        · rw [if_neg h0, if_neg h0]; omega
      by_cases c : rh m = lvH hi j
      · rw [if_pos c, if_pos (ec.mp c)]; omega
      · rw [if_neg c, if_neg (fun q => c (ec.mpr q))]; omega
    rw [e, capR_add (S1 := fun _ => 0) (S2 := fun _ => 0), ih, capR_rod]
    have : (0 : Nat) ≤ (if hi = 0 then (rh m).toNat else (100 - rh m).toNat) ∧ (if hi = 0 then (rh m).toNat else (100 - rh m).toNat) ≤ 0 + 100 := by
      by_cases h0 : hi = 0
      · rw [if_pos h0]; omega
      · rw [if_neg h0]; omega
    rw [if_pos this]
    simp only [sumN]
    omega
theorem cap_bands {f : Int} {nb : Nat} (hi : Int) : ∀ (m : Nat), m ≤ nb → BandB bw bf bt nb → capR (fun _ => 0) (stF f bw bf bt m hi) 100 0 = f * areaF bw bf bt m
  | 0, _, _ => by
    have : ∀ k, stF f bw bf bt 0 hi k = 0 := fun k => by unfold stF wAt; simp [sumN]
    rw [capR_zero (fun _ => rfl) this 100 0]
    simp [areaF, sumN]
  | m + 1, hm, hB => by
    have ih := cap_bands (f := f) (nb := nb) hi m (by omega) hB
    have hb := hB.2 m (by omega)
    have e : capR (fun _ => 0) (stF f bw bf bt (m + 1) hi) 100 0 = capR (fun j => 0 + 0) (fun j => stF f bw bf bt m hi j + (if (if hi = 0 then (bf m).toNat else (100 - bt m).toNat) ≤ j ∧ j < (if hi = 0 then (bt m).toNat else (100 - bf m).toNat) then f * bw m else 0)) 100 0 := by
      refine capR_congr 100 0 (fun j h1 h2 => ⟨rfl, ?_⟩)
      unfold stF wAt
      simp only [sumN]
      rw [Int.mul_add]
      congr 1
      by_cases h0 : hi = 0
      · simp only [if_pos h0]
        by_cases c : bf m ≤ (j : Int) ∧ (j : Int) < bt m
        · rw [if_pos c, if_pos (by omega)]
        · rw [if_neg c, if_neg (by omega)]; simp
      · simp only [if_neg h0]
        by_cases c : bf m ≤ 99 - (j : Int) ∧ 99 - (j : Int) < bt m
        · rw [if_pos c, if_pos (by omega)]
        · rw [if_neg c, if_neg (by omega)]; simp
    rw [e, capR_add (r1 := fun _ => 0) (r2 := fun _ => 0), ih]
    have ea : areaF bw bf bt (m + 1) = areaF bw bf bt m + bw m * (bt m - bf m) := rfl
    rw [ea, Int.mul_add]
    congr 1
    by_cases h0 : hi = 0
    · simp only [if_pos h0]
      rw [capR_band 100 0 (by omega) (by omega), Int.mul_assoc]
      congr 2
      omega
    · simp only [if_neg h0]
      rw [capR_band 100 0 (by omega) (by omega), Int.mul_assoc]
      congr 2
      omega
theorem rho_nn {nr : Nat} (hS : StrB us nr) (hi : Int) (k : Nat) : 0 ≤ rhoF rh us nr hi k := by
  have := rAt_bd (rh := rh) hS (lvH hi k) nr (Nat.le_refl _)
  unfold rhoF
  omega
theorem st_nn {f : Int} {nb : Nat} (hf : 1 ≤ f) (hB : BandB bw bf bt nb) (hi : Int) (k : Nat) : 0 ≤ stF f bw bf bt nb hi k := by
  unfold stF
  exact Int.mul_nonneg (by omega) (wAt_bd hB _ nb (Nat.le_refl _)).1
theorem st_le {f : Int} {nb : Nat} (hf : 1 ≤ f) (hf2 : f ≤ 50) (hB : BandB bw bf bt nb) (hi : Int) (k : Nat) : stF f bw bf bt nb hi k ≤ 40000 := by
  unfold stF
  have h1 := wAt_bd hB (if hi = 0 then (k : Int) else 99 - k) nb (Nat.le_refl _)
  have h8 := hB.1
  have := mul_bd (show 0 ≤ f by omega) hf2 h1.1 (show wAt bw bf bt nb (if hi = 0 then (k : Int) else 99 - k) ≤ 800 by omega)
  omega
/-- a push that can be reached is reached -/
theorem walk_some {f z : Int} {nb nr : Nat} {hi needs : Int} (hf : 1 ≤ f) (hB : BandB bw bf bt nb) (hR : RodB rh nr) (hn : needs ≤ 2 * sumN us nr + f * areaF bw bf bt nb) : ∃ N D P Z, walkR f z bw bf bt nb rh us nr hi needs = some (N, D, P, Z) := by
  refine rw_some (st_nn hf hB hi) 100 0 needs _ ?_
  have h1 := cap_rods (us := us) hi nr (Nat.le_refl _) hR
  have h2 := cap_bands (f := f) hi nb (Nat.le_refl _) hB
  have h3 := capR_add (r1 := rhoF rh us nr hi) (S1 := fun _ => 0) (r2 := fun _ => 0) (S2 := stF f bw bf bt nb hi) 100 0
  have h4 : capR (rhoF rh us nr hi) (stF f bw bf bt nb hi) 100 0 = capR (fun j => rhoF rh us nr hi j + 0) (fun j => 0 + stF f bw bf bt nb hi j) 100 0 := capR_congr 100 0 (fun j _ _ => ⟨by omega, by omega⟩)
  rw [h4]
  omega
end Tot
theorem walk_Nstrip {B t m s : Int} {A : Int} (h0 : 0 ≤ t) (hs : 0 < s) (ht : t ≤ s) (hm1 : -99 ≤ m) (hm2 : m ≤ 100) (hB1 : -A ≤ B) (hB2 : B ≤ A) : -(2 * s * (A + 200 * t)) ≤ 2 * ((B + 2 * t * m) * s - t * t) ∧ 2 * ((B + 2 * t * m) * s - t * t) ≤ 2 * s * (A + 200 * t) := by
  have e : 2 * ((B + 2 * t * m) * s - t * t) = 2 * (B * s) + 2 * (t * (2 * m * s - t)) := by grind
  have e2 : 2 * s * (A + 200 * t) = 2 * (A * s) + 2 * (t * (200 * s)) := by grind
  have b1 := mabs hB1 hB2 (show -s ≤ s by omega) (Int.le_refl s)
  have u1 : 2 * m * s ≤ 200 * s := Int.mul_le_mul_of_nonneg_right (by omega) (by omega)
  have u2 : (-198) * s ≤ 2 * m * s := Int.mul_le_mul_of_nonneg_right (by omega) (by omega)
  have b2 := Int.mul_le_mul_of_nonneg_left (show 2 * m * s - t ≤ 200 * s by omega) h0
  have b3 := Int.mul_le_mul_of_nonneg_left (show -(200 * s) ≤ 2 * m * s - t by omega) h0
  rw [Int.mul_neg] at b3
  rw [e, e2]
  omega
theorem walk_bd {rho S : Nat → Int} {a : Int} {M : Int} (hr : ∀ k, 0 ≤ rho k) (hS : ∀ k, 0 ≤ S k) (hM : ∀ k, S k ≤ M) (h1M : 1 ≤ M) (ha0 : 0 ≤ a) (ha : a ≤ 100) : ∀ (n k : Nat) (needs B A N D P Z : Int), rw_ rho S a n k needs B = some (N, D, P, Z) → k + n ≤ 100 → 0 ≤ needs → -A ≤ B → B ≤ A →
    (0 < D ∧ D ≤ 2 * M) ∧ (0 < Z ∧ Z ≤ M) ∧ (0 ≤ P ∧ P ≤ 100 * Z) ∧ -(D * (A + 200 * needs)) ≤ 2 * N ∧ 2 * N ≤ D * (A + 200 * needs) := by
  have rod : ∀ (k : Nat) (needs B A : Int), k ≤ 100 → 0 ≤ needs → -A ≤ B → B ≤ A → -(2 * (A + 200 * needs)) ≤ 2 * (B + 2 * needs * (a - k)) ∧ 2 * (B + 2 * needs * (a - k)) ≤ 2 * (A + 200 * needs) := by
    intro k needs B A hk h0 h1 h2
    have b1 := mabs (show -(2 * needs) ≤ 2 * needs by omega) (Int.le_refl _) (show -100 ≤ a - (k : Int) by omega) (show a - (k : Int) ≤ 100 by omega)
    omega
  intro n
  induction n with
  | zero =>
    intro k needs B A N D P Z h hk h0 h1 h2
    unfold rw_ at h
    by_cases c : needs ≤ rho k
    · rw [if_pos c] at h
      cases h
      exact ⟨⟨by decide, by omega⟩, ⟨by decide, h1M⟩, ⟨by omega, by omega⟩, rod k needs B A (by omega) h0 h1 h2⟩
    · rw [if_neg c] at h; cases h
  | succ n ih =>
    intro k needs B A N D P Z h hk h0 h1 h2
    by_cases c : needs ≤ rho k
    · rw [rw_rod c] at h
      cases h
      exact ⟨⟨by decide, by omega⟩, ⟨by decide, h1M⟩, ⟨by omega, by omega⟩, rod k needs B A (by omega) h0 h1 h2⟩
    · rw [rw_pass c] at h
      unfold strip at h
      have hrk := hr k
      have hsk := hS k
      have hmk := hM k
      have b1 := mabs (show -(2 * rho k) ≤ 2 * rho k by omega) (Int.le_refl _) (show -100 ≤ a - (k : Int) by omega) (show a - (k : Int) ≤ 100 by omega)
      by_cases c2 : 0 < S k ∧ needs - rho k ≤ S k
      · rw [if_pos c2] at h
        cases h
        have b2 := walk_Nstrip (B := B + 2 * rho k * (a - k)) (t := needs - rho k) (m := a - k) (s := S k) (A := A + 200 * rho k) (by omega) c2.1 c2.2 (by omega) (by omega) (by omega) (by omega)
        rw [show A + 200 * rho k + 200 * (needs - rho k) = A + 200 * needs by omega] at b2
        have b3 : 0 ≤ (k : Int) * S k := Int.mul_nonneg (by omega) hsk
        have b4 : (k : Int) * S k ≤ 99 * S k := Int.mul_le_mul_of_nonneg_right (by omega) hsk
        refine ⟨⟨by omega, by omega⟩, ⟨by omega, by omega⟩, ⟨by omega, by omega⟩, b2⟩
      · rw [if_neg c2] at h
        have c3 : S k < needs - rho k := by
          rcases Int.lt_or_le (S k) (needs - rho k) with q | q
          · exact q
          · exfalso; exact c2 ⟨by omega, q⟩
        have b2 := mabs (show -S k ≤ S k by omega) (Int.le_refl _) (show -200 ≤ 2 * (a - (k : Int)) - 1 by omega) (show 2 * (a - (k : Int)) - 1 ≤ 200 by omega)
        have := ih (k + 1) _ _ (A + 200 * rho k + 200 * S k) N D P Z h (by omega) (by omega) (by omega) (by omega)
        rw [show A + 200 * rho k + 200 * S k + 200 * (needs - rho k - S k) = A + 200 * needs by omega] at this
        exact this
