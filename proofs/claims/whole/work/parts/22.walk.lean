/-! THE WALK, pure: from level 0 on (the top, or the foot), level k's RODS can take rho k, the strip behind it S k; a is the arm of level 0.
The answer: twice the bend's top, its bottom, the cut's way from level 0: top, bottom. -/
abbrev R4 : Type := Int × Int × Int × Int
/-- behind level k's RODS, with 'go' for what lies behind the strip -/
def strip (S : Nat → Int) (a : Int) (go : Nat → Int → Int → Option R4) (k : Nat) (needs B : Int) : Option R4 :=
  if 0 < S k ∧ needs ≤ S k then some ((B + 2 * needs * (a - k)) * S k - needs * needs, 2 * S k, k * S k + needs, S k)
  else go (k + 1) (needs - S k) (B + S k * (2 * (a - k) - 1))
def rw_ (rho S : Nat → Int) (a : Int) : Nat → Nat → Int → Int → Option R4
  | 0, k, needs, B => if needs ≤ rho k then some (B + 2 * needs * (a - k), 2, k, 1) else none
  | n + 1, k, needs, B => if needs ≤ rho k then some (B + 2 * needs * (a - k), 2, k, 1) else strip S a (rw_ rho S a n) k (needs - rho k) (B + 2 * rho k * (a - k))
theorem rw_rod {rho S : Nat → Int} {a : Int} {n k : Nat} {needs B : Int} (h : needs ≤ rho k) : rw_ rho S a n k needs B = some ((B + 2 * needs * (a - k), 2, (k : Int), 1) : R4) := by
  cases n <;> simp [rw_, h]
theorem rw_pass {rho S : Nat → Int} {a : Int} {n k : Nat} {needs B : Int} (h : ¬ needs ≤ rho k) : rw_ rho S a (n + 1) k needs B = strip S a (rw_ rho S a n) k (needs - rho k) (B + 2 * rho k * (a - k)) := by
  simp [rw_, h]
/-- THE JUMP over strips of one width without RODS between: it ends among them -/
theorem jump_end {rho S : Nat → Int} {a s : Int} : ∀ (len n k : Nat) (needs B : Int), (∀ j, j < len → S (k + j) = s) → (∀ j, 0 < j → j < len → rho (k + j) = 0) → 0 < needs → needs ≤ s * len → len ≤ n + 1 →
    strip S a (rw_ rho S a n) k needs B = some ((B + 2 * needs * (a - k)) * s - needs * needs, 2 * s, k * s + needs, s) := by
  intro len
  induction len with
  | zero => intro n k needs B _ _ h1 h2 _; simp at h2; omega
  | succ len ih =>
    intro n k needs B hS hr h1 h2 hn
    have hs0 := hS 0 (by omega)
    simp at hs0
    have hs : 0 < s := by
      rcases Int.lt_or_le 0 s with q | q
      · exact q
      · have : s * ((len + 1 : Nat) : Int) ≤ 0 * ((len + 1 : Nat) : Int) := Int.mul_le_mul_of_nonneg_right q (by omega)
        omega
    unfold strip
    rw [hs0]
    by_cases hle : needs ≤ s
    · rw [if_pos ⟨hs, hle⟩]
    · rw [if_neg (fun q => hle q.2)]
      have hl1 : 1 ≤ len := by
        rcases Nat.eq_zero_or_pos len with q | q
        · subst q; simp at h2; omega
        · exact q
      obtain ⟨n', rfl⟩ : ∃ n', n = n' + 1 := ⟨n - 1, by omega⟩
      have hr1 := hr 1 (by omega) (by omega)
      have hpass : ¬ needs - s ≤ rho (k + 1) := by rw [hr1]; omega
      rw [rw_pass hpass, hr1]
      have h3 : needs - s ≤ s * (len : Int) := by
        have : s * ((len + 1 : Nat) : Int) = s * (len : Int) + s := by rw [Int.natCast_succ, Int.mul_add, Int.mul_one]
        omega
      rw [ih n' (k + 1) (needs - s - 0) _ (fun j hj => by rw [Nat.add_assoc, Nat.add_comm 1 j]; exact hS (j + 1) (by omega)) (fun j h4 h5 => by rw [Nat.add_assoc, Nat.add_comm 1 j]; exact hr (j + 1) (by omega) (by omega)) (by omega) (by omega) (by omega)]
      have ek : ((k + 1 : Nat) : Int) = (k : Int) + 1 := by omega
      rw [ek]
      congr 1
      refine Prod.ext ?_ (Prod.ext rfl (Prod.ext ?_ rfl))
      · show _ = _
        simp only
        grind
      · show _ = _
        simp only
        grind
theorem jump_pass {rho S : Nat → Int} {a s : Int} : ∀ (len n k : Nat) (needs B : Int), (∀ j, j < len + 1 → S (k + j) = s) → (∀ j, 0 < j → j < len + 1 → rho (k + j) = 0) → 0 ≤ s → s * (len + 1 : Nat) < needs → len ≤ n →
    strip S a (rw_ rho S a n) k needs B = rw_ rho S a (n - len) (k + len + 1) (needs - s * (len + 1 : Nat)) (B + s * (len + 1 : Nat) * (2 * (a - k) - (len + 1 : Nat))) := by
  intro len
  induction len with
  | zero =>
    intro n k needs B hS hr h1 h2 hn
    have hs0 := hS 0 (by omega)
    simp at hs0 h2
    unfold strip
    rw [hs0, if_neg (fun q => by omega)]
    simp
  | succ len ih =>
    intro n k needs B hS hr h1 h2 hn
    have hs0 := hS 0 (by omega)
    simp at hs0
    have em : s * ((len + 1 + 1 : Nat) : Int) = s * ((len + 1 : Nat) : Int) + s := by rw [Int.natCast_succ, Int.mul_add, Int.mul_one]
    have h0 : 0 ≤ s * ((len + 1 : Nat) : Int) := Int.mul_nonneg h1 (by omega)
    obtain ⟨n', rfl⟩ : ∃ n', n = n' + 1 := ⟨n - 1, by omega⟩
    have hr1 := hr 1 (by omega) (by omega)
    unfold strip
    rw [hs0, if_neg (fun q => by omega)]
    have hpass : ¬ needs - s ≤ rho (k + 1) := by rw [hr1]; omega
    rw [rw_pass hpass, hr1, ih n' (k + 1) (needs - s - 0) _ (fun j hj => by rw [Nat.add_assoc, Nat.add_comm 1 j]; exact hS (j + 1) (by omega)) (fun j h4 h5 => by rw [Nat.add_assoc, Nat.add_comm 1 j]; exact hr (j + 1) (by omega) (by omega)) h1 (by omega) (by omega)]
    have e1 : n' + 1 - (len + 1) = n' - len := by omega
    have e2 : k + 1 + len + 1 = k + (len + 1) + 1 := by omega
    have ek : ((k + 1 : Nat) : Int) = (k : Int) + 1 := by omega
    have el : ((len + 1 + 1 : Nat) : Int) = ((len + 1 : Nat) : Int) + 1 := by omega
    rw [e1, e2, ek, el]
    congr 1
    · grind
    · grind
/-- what lies above a cut p / q, times q -/
def abv (p q : Int) (k : Nat) : Int := max (p - q * k) 0
def gain (rho S : Nat → Int) (p q : Int) : Nat → Nat → Int
  | 0, k => 2 * q * rho k * abv p q k
  | n + 1, k => 2 * q * rho k * abv p q k + S k * (abv p q k * abv p q k - abv p q (k + 1) * abv p q (k + 1)) + gain rho S p q n (k + 1)
theorem abv_nonneg (p q : Int) (k : Nat) : 0 ≤ abv p q k := by unfold abv; omega
theorem abv_le {p q : Int} {k : Nat} (hq : 0 < q) : abv p q (k + 1) ≤ abv p q k := by
  unfold abv
  have : q * ((k + 1 : Nat) : Int) = q * k + q := by rw [Int.natCast_succ, Int.mul_add, Int.mul_one]
  omega
theorem sq_le {x y : Int} (hy : 0 ≤ y) (h : y ≤ x) : y * y ≤ x * x := Int.mul_le_mul h h hy (by omega)
theorem gain_nonneg {rho S : Nat → Int} {p q : Int} (hq : 0 < q) (hr : ∀ k, 0 ≤ rho k) (hS : ∀ k, 0 ≤ S k) : ∀ (n k : Nat), 0 ≤ gain rho S p q n k := by
  intro n
  induction n with
  | zero =>
    intro k
    exact Int.mul_nonneg (Int.mul_nonneg (by omega) (hr k)) (abv_nonneg p q k)
  | succ n ih =>
    intro k
    have h1 := Int.mul_nonneg (Int.mul_nonneg (show 0 ≤ 2 * q by omega) (hr k)) (abv_nonneg p q k)
    have h2 := sq_le (abv_nonneg p q (k + 1)) (abv_le (p := p) (k := k) hq)
    have h3 := Int.mul_nonneg (hS k) (show 0 ≤ abv p q k * abv p q k - abv p q (k + 1) * abv p q (k + 1) by omega)
    have h4 := ih (k + 1)
    simp only [gain]
    omega
theorem gain_zero {rho S : Nat → Int} {p q : Int} (hq : 0 < q) : ∀ (n k : Nat), p ≤ q * k → gain rho S p q n k = 0 := by
  have hz : ∀ k : Nat, p ≤ q * k → abv p q k = 0 := fun k h => by unfold abv; omega
  have hs : ∀ k : Nat, p ≤ q * k → p ≤ q * ((k + 1 : Nat) : Int) := fun k h => by
    have : q * ((k + 1 : Nat) : Int) = q * k + q := by rw [Int.natCast_succ, Int.mul_add, Int.mul_one]
    omega
  intro n
  induction n with
  | zero => intro k h; simp [gain, hz k h]
  | succ n ih => intro k h; simp [gain, hz k h, hz (k + 1) (hs k h), ih (k + 1) (hs k h)]
theorem sqn (x : Int) : 0 ≤ x * x := by
  rcases Int.le_total 0 x with h | h
  · exact Int.mul_nonneg h h
  · have := Int.mul_nonneg (show 0 ≤ -x by omega) (show 0 ≤ -x by omega)
    rw [Int.neg_mul_neg] at this
    exact this
theorem rods_le {needs r u : Int} (h0 : 0 ≤ needs) (h1 : needs ≤ r) : needs * u ≤ r * max u 0 := by
  rcases Int.le_total 0 u with h | h
  · rw [show max u 0 = u by omega]
    exact Int.mul_le_mul_of_nonneg_right h1 h
  · rw [show max u 0 = 0 by omega, Int.mul_zero]
    have := Int.mul_nonneg h0 (show 0 ≤ -u by omega)
    rw [Int.mul_neg] at this
    omega
theorem rods_pass {r u : Int} (h : 0 ≤ r) : r * u ≤ r * max u 0 := Int.mul_le_mul_of_nonneg_left (by omega) h
theorem strip_end {q s t u : Int} (hq : 0 < q) (ht0 : 0 ≤ t) (ht : t ≤ s) : 2 * q * s * t * u - q * q * (t * t) ≤ s * s * (max u 0 * max u 0 - max (u - q) 0 * max (u - q) 0) := by
  have hs : 0 ≤ s := by omega
  rcases Int.le_total u 0 with h | h
  · rw [show max u 0 = 0 by omega, show max (u - q) 0 = 0 by omega]
    have h1 := Int.mul_nonneg (Int.mul_nonneg (Int.mul_nonneg (show 0 ≤ 2 * q by omega) hs) ht0) (show 0 ≤ -u by omega)
    have h2 := Int.mul_nonneg (sqn q) (sqn t)
    rw [Int.mul_neg] at h1
    simp
    omega
  · rw [show max u 0 = u by omega]
    rcases Int.le_total u q with h3 | h3
    · rw [show max (u - q) 0 = 0 by omega]
      have h4 := sqn (s * u - q * t)
      have h5 : (s * u - q * t) * (s * u - q * t) = s * s * (u * u) - (2 * q * s * t * u - q * q * (t * t)) := by grind
      simp
      omega
    · rw [show max (u - q) 0 = u - q by omega]
      have h6 : 0 ≤ 2 * s * u - q * s - q * t := by
        have e1 : s * q ≤ s * u := Int.mul_le_mul_of_nonneg_left h3 hs
        have e2 : q * t ≤ q * s := Int.mul_le_mul_of_nonneg_left ht (by omega)
        have e3 : q * s = s * q := Int.mul_comm _ _
        have e4 : 2 * s * u = s * u + s * u := by grind
        omega
      have h7 := Int.mul_nonneg (Int.mul_nonneg (show 0 ≤ q by omega) (show 0 ≤ s - t by omega)) h6
      have h8 : s * s * (u * u - (u - q) * (u - q)) - (2 * q * s * t * u - q * q * (t * t)) = q * (s - t) * (2 * s * u - q * s - q * t) := by grind
      omega
theorem strip_pass {q s u : Int} (hq : 0 < q) (hs : 0 ≤ s) : s * (2 * q * u - q * q) ≤ s * (max u 0 * max u 0 - max (u - q) 0 * max (u - q) 0) := by
  refine Int.mul_le_mul_of_nonneg_left ?_ hs
  rcases Int.le_total u 0 with h | h
  · rw [show max u 0 = 0 by omega, show max (u - q) 0 = 0 by omega]
    have h1 := Int.mul_nonneg (show 0 ≤ 2 * q by omega) (show 0 ≤ -u by omega)
    have h2 := sqn q
    rw [Int.mul_neg] at h1
    omega
  · rw [show max u 0 = u by omega]
    rcases Int.le_total u q with h3 | h3
    · rw [show max (u - q) 0 = 0 by omega]
      have h4 := sqn (u - q)
      have h5 : (u - q) * (u - q) = u * u - (2 * q * u - q * q) := by grind
      omega
    · rw [show max (u - q) 0 = u - q by omega]
      have h8 : u * u - (u - q) * (u - q) = 2 * q * u - q * q := by grind
      omega
theorem abv_succ (p q : Int) (k : Nat) : abv p q (k + 1) = max ((p - q * k) - q) 0 := by
  unfold abv
  have : q * ((k + 1 : Nat) : Int) = q * k + q := by rw [Int.natCast_succ, Int.mul_add, Int.mul_one]
  rw [this]
  congr 1
  omega
/-- NO CUT gives less than the walk's bend -/
theorem dual_le {rho S : Nat → Int} {a p q : Int} (hq : 0 < q) (hr : ∀ k, 0 ≤ rho k) (hS : ∀ k, 0 ≤ S k) : ∀ (n k : Nat) (needs B N D P Z : Int), rw_ rho S a n k needs B = some (N, D, P, Z) → 0 ≤ needs → 0 < D ∧ 2 * (q * q) * N ≤ D * (q * q * B + 2 * q * needs * (q * a - p) + gain rho S p q n k) := by
  have rod : ∀ (n k : Nat) (needs B : Int), 0 ≤ needs → needs ≤ rho k → 2 * (q * q) * (B + 2 * needs * (a - k)) ≤ 2 * (q * q * B + 2 * q * needs * (q * a - p) + gain rho S p q n k) := by
    intro n k needs B h0 h1
    have h2 := rods_le (u := p - q * k) h0 h1
    have h3 : 2 * q * rho k * abv p q k ≤ gain rho S p q n k := by
      cases n with
      | zero => exact Int.le_refl _
      | succ n =>
        have h4 := gain_nonneg (p := p) hq hr hS n (k + 1)
        have h5 := sq_le (abv_nonneg p q (k + 1)) (abv_le (p := p) (k := k) hq)
        have h6 := Int.mul_nonneg (hS k) (show 0 ≤ abv p q k * abv p q k - abv p q (k + 1) * abv p q (k + 1) by omega)
        simp only [gain]
        omega
    have h7 : 2 * q * (needs * (p - q * k)) ≤ 2 * q * (rho k * max (p - q * k) 0) := Int.mul_le_mul_of_nonneg_left h2 (by omega)
    have h8 : 2 * q * (rho k * max (p - q * k) 0) = 2 * q * rho k * abv p q k := by unfold abv; grind
    have h9 : 2 * (q * q) * (B + 2 * needs * (a - k)) = 2 * (q * q * B + 2 * q * needs * (q * a - p) + 2 * q * (needs * (p - q * k))) := by grind
    omega
  intro n
  induction n with
  | zero =>
    intro k needs B N D P Z h h0
    unfold rw_ at h
    by_cases h1 : needs ≤ rho k
    · rw [if_pos h1] at h
      cases h
      exact ⟨by decide, rod 0 k needs B h0 h1⟩
    · rw [if_neg h1] at h
      cases h
  | succ n ih =>
    intro k needs B N D P Z h h0
    by_cases h1 : needs ≤ rho k
    · rw [rw_rod h1] at h
      cases h
      exact ⟨by decide, rod (n + 1) k needs B h0 h1⟩
    · rw [rw_pass h1] at h
      unfold strip at h
      have hu := rods_pass (u := p - q * k) (hr k)
      have hu2 : 2 * q * (rho k * (p - q * k)) ≤ 2 * q * rho k * abv p q k := by
        have e1 : 2 * q * (rho k * (p - q * k)) ≤ 2 * q * (rho k * max (p - q * k) 0) := Int.mul_le_mul_of_nonneg_left hu (by omega)
        have e2 : 2 * q * (rho k * max (p - q * k) 0) = 2 * q * rho k * abv p q k := by unfold abv; grind
        omega
      have ea := abv_succ p q k
      have eb : abv p q k = max (p - q * k) 0 := rfl
      have hg := gain_nonneg (p := p) hq hr hS n (k + 1)
      by_cases h2 : 0 < S k ∧ needs - rho k ≤ S k
      · rw [if_pos h2] at h
        cases h
        refine ⟨by omega, ?_⟩
        have h3 := strip_end (u := p - q * k) hq (show 0 ≤ needs - rho k by omega) h2.2
        simp only [gain]
        rw [← ea, ← eb] at h3
        have h4 := Int.mul_le_mul_of_nonneg_left hu2 (show 0 ≤ 2 * S k by omega)
        have h5 := Int.mul_nonneg (show 0 ≤ 2 * S k by omega) hg
        generalize gain rho S p q n (k + 1) = G at *
        generalize abv p q k = w at *
        generalize abv p q (k + 1) = w' at *
        generalize rho k = r at *
        generalize S k = s at *
        generalize (k : Int) = z at *
        clear ih rod ea eb hu hu2 hg
        grind
      · rw [if_neg h2] at h
        have h2' : S k < needs - rho k := by
          have := hS k
          rcases Int.lt_or_le (S k) (needs - rho k) with q | q
          · exact q
          · exfalso
            exact h2 ⟨by omega, q⟩
        obtain ⟨hD, hle⟩ := ih (k + 1) _ _ N D P Z h (by omega)
        refine ⟨hD, Int.le_trans hle (Int.mul_le_mul_of_nonneg_left ?_ (by omega))⟩
        have h3 := strip_pass (u := p - q * k) hq (hS k)
        simp only [gain]
        rw [← ea, ← eb] at h3
        generalize gain rho S p q n (k + 1) = G at *
        generalize abv p q k = w at *
        generalize abv p q (k + 1) = w' at *
        generalize rho k = r at *
        generalize S k = s at *
        generalize (k : Int) = z at *
        clear ih rod ea eb hu hg h hle
        grind
theorem cut_ge {rho S : Nat → Int} {a : Int} (hS : ∀ k, 0 ≤ S k) : ∀ (n k : Nat) (needs B N D P Z : Int), rw_ rho S a n k needs B = some (N, D, P, Z) → 0 < Z ∧ Z * k ≤ P := by
  intro n
  induction n with
  | zero =>
    intro k needs B N D P Z h
    unfold rw_ at h
    by_cases h1 : needs ≤ rho k
    · rw [if_pos h1] at h; cases h; exact ⟨by decide, by omega⟩
    · rw [if_neg h1] at h; cases h
  | succ n ih =>
    intro k needs B N D P Z h
    by_cases h1 : needs ≤ rho k
    · rw [rw_rod h1] at h; cases h; exact ⟨by decide, by omega⟩
    · rw [rw_pass h1] at h
      unfold strip at h
      by_cases h2 : 0 < S k ∧ needs - rho k ≤ S k
      · rw [if_pos h2] at h
        cases h
        refine ⟨h2.1, ?_⟩
        have : S k * (k : Int) = k * S k := Int.mul_comm _ _
        omega
      · rw [if_neg h2] at h
        obtain ⟨h3, h4⟩ := ih (k + 1) _ _ N D P Z h
        refine ⟨h3, ?_⟩
        have : Z * ((k + 1 : Nat) : Int) = Z * k + Z := by rw [Int.natCast_succ, Int.mul_add, Int.mul_one]
        omega
/-- the walk's own cut gives just its bend -/
theorem dual_eq {rho S : Nat → Int} {a : Int} (hS : ∀ k, 0 ≤ S k) : ∀ (n k : Nat) (needs B N D P Z : Int), rw_ rho S a n k needs B = some (N, D, P, Z) → 2 * (Z * Z) * N = D * (Z * Z * B + 2 * Z * needs * (Z * a - P) + gain rho S P Z n k) := by
  have rod : ∀ (n k : Nat) (needs B : Int), 2 * ((1 : Int) * 1) * (B + 2 * needs * (a - k)) = 2 * ((1 : Int) * 1 * B + 2 * 1 * needs * (1 * a - k) + gain rho S k 1 n k) := by
    intro n k needs B
    rw [gain_zero (by decide) n k (by omega)]
    grind
  intro n
  induction n with
  | zero =>
    intro k needs B N D P Z h
    unfold rw_ at h
    by_cases h1 : needs ≤ rho k
    · rw [if_pos h1] at h; cases h; exact rod 0 k needs B
    · rw [if_neg h1] at h; cases h
  | succ n ih =>
    intro k needs B N D P Z h
    by_cases h1 : needs ≤ rho k
    · rw [rw_rod h1] at h; cases h; exact rod (n + 1) k needs B
    · have hc := cut_ge hS (n + 1) k needs B N D P Z h
      rw [rw_pass h1] at h
      unfold strip at h
      by_cases h2 : 0 < S k ∧ needs - rho k ≤ S k
      · rw [if_pos h2] at h
        cases h
        simp only [gain]
        rw [gain_zero (rho := rho) (S := S) (p := k * S k + (needs - rho k)) (q := S k) h2.1 n (k + 1) (by
          have e1 : S k * ((k + 1 : Nat) : Int) = S k * k + S k := by rw [Int.natCast_succ, Int.mul_add, Int.mul_one]
          have e2 : S k * (k : Int) = k * S k := Int.mul_comm _ _
          omega)]
        have w1 : abv (k * S k + (needs - rho k)) (S k) k = needs - rho k := by
          unfold abv
          have e2 : S k * (k : Int) = k * S k := Int.mul_comm _ _
          omega
        have w2 : abv (k * S k + (needs - rho k)) (S k) (k + 1) = 0 := by
          unfold abv
          have e1 : S k * ((k + 1 : Nat) : Int) = S k * k + S k := by rw [Int.natCast_succ, Int.mul_add, Int.mul_one]
          have e2 : S k * (k : Int) = k * S k := Int.mul_comm _ _
          omega
        rw [w1, w2]
        generalize rho k = r at *
        generalize S k = s at *
        generalize (k : Int) = z at *
        clear ih rod w1 w2 hc
        grind
      · rw [if_neg h2] at h
        have hg := cut_ge hS n (k + 1) _ _ N D P Z h
        rw [ih (k + 1) _ _ N D P Z h]
        have e1 : Z * ((k + 1 : Nat) : Int) = Z * k + Z := by rw [Int.natCast_succ, Int.mul_add, Int.mul_one]
        have w1 : abv P Z k = P - Z * k := by unfold abv; omega
        have w2 : abv P Z (k + 1) = P - Z * k - Z := by unfold abv; omega
        simp only [gain]
        rw [w1, w2]
        generalize gain rho S P Z n (k + 1) = G at *
        generalize rho k = r at *
        generalize S k = s at *
        generalize (k : Int) = z at *
        clear ih rod w1 w2 hc h hg
        grind
