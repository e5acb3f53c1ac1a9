/-! the reference's long numbers: digits of 30 bits -/
def vB (f : Nat → Int) : Nat → Int
  | 0 => 0
  | n + 1 => vB f n + f n * 1073741824 ^ n
theorem bpos (n : Nat) : (0 : Int) < 1073741824 ^ n := Int.pow_pos (by decide)
theorem vB_congr {f g : Nat → Int} : ∀ {n : Nat}, (∀ j, j < n → f j = g j) → vB f n = vB g n
  | 0, _ => rfl
  | n + 1, h => by
    simp only [vB]
    rw [vB_congr (fun j hj => h j (by omega)), h n (by omega)]
def D30 (f : Nat → Int) (n : Nat) : Prop := ∀ j, j < n → 0 ≤ f j ∧ f j < 1073741824
theorem D30.less {f : Nat → Int} {n k : Nat} (h : D30 f n) (hk : k ≤ n) : D30 f k := fun j hj => h j (by omega)
theorem vB_nonneg {f : Nat → Int} : ∀ {n : Nat}, D30 f n → 0 ≤ vB f n
  | 0, _ => Int.le_refl 0
  | n + 1, h => by
    have h1 := vB_nonneg (n := n) (fun j hj => h j (by omega))
    have h2 := Int.mul_nonneg (h n (by omega)).1 (Int.le_of_lt (bpos n))
    simp only [vB]; omega
theorem bsucc (n : Nat) : (1073741824 : Int) ^ (n + 1) = 1073741824 ^ n * 1073741824 := Int.pow_succ _ _
theorem vB_lt {f : Nat → Int} : ∀ {n : Nat}, D30 f n → vB f n < 1073741824 ^ n
  | 0, _ => by simp [vB]
  | n + 1, h => by
    have h1 := vB_lt (n := n) (fun j hj => h j (by omega))
    have h2 : f n * 1073741824 ^ n ≤ 1073741823 * 1073741824 ^ n := Int.mul_le_mul_of_nonneg_right (by have := (h n (by omega)).2; omega) (Int.le_of_lt (bpos n))
    simp only [vB]; rw [bsucc]; omega
theorem vB_ge {f : Nat → Int} {n : Nat} (h : D30 f (n + 1)) (ht : f n ≠ 0) : (1073741824 : Int) ^ n ≤ vB f (n + 1) := by
  have h1 := vB_nonneg (h.less (Nat.le_succ n))
  have h2 := h n (by omega)
  have h3 : 1 * (1073741824 : Int) ^ n ≤ f n * 1073741824 ^ n := Int.mul_le_mul_of_nonneg_right (by omega) (Int.le_of_lt (bpos n))
  simp only [vB]
  omega
theorem vB_up {f : Nat → Int} {n k : Nat} {x : Int} (h : n ≤ k) : vB (up1 f k x) n = vB f n := vB_congr (fun j hj => up1_ne (by omega))
theorem vB_set {f : Nat → Int} {k : Nat} {x : Int} : ∀ {n : Nat}, k < n → vB (up1 f k x) n = vB f n + (x - f k) * 1073741824 ^ k
  | 0, h => absurd h (by omega)
  | n + 1, h => by
    simp only [vB]
    by_cases e : k = n
    · subst e
      rw [vB_up (Nat.le_refl k), up1_same, Int.sub_mul]; omega
    · rw [vB_set (n := n) (by omega), up1_ne (fun q => e q.symm)]; omega
theorem vB_step {f : Nat → Int} {i : Nat} {x : Int} : vB (up1 f i x) (i + 1) = vB f i + x * 1073741824 ^ i := by
  simp only [vB]; rw [vB_up (Nat.le_refl i), up1_same]
theorem D30.setd {f : Nat → Int} {i n : Nat} {x : Int} (h : D30 f n) (h0 : 0 ≤ x) (h1 : x < 1073741824) : D30 (up1 f i x) n := by
  intro j hj
  by_cases e : j = i
  · rw [e, up1_same]; exact ⟨h0, h1⟩
  · rw [up1_ne e]; exact h j hj
theorem D30.up {f : Nat → Int} {i : Nat} {x : Int} (h : D30 f i) (h0 : 0 ≤ x) (h1 : x < 1073741824) : D30 (up1 f i x) (i + 1) := by
  intro j hj
  by_cases e : j = i
  · rw [e, up1_same]; exact ⟨h0, h1⟩
  · rw [up1_ne e]; exact h j (by omega)
/-- a digit, or 0 behind the last -/
def exD (f : Nat → Int) (n j : Nat) : Int := if j < n then f j else 0
theorem exD_bd {f : Nat → Int} {n : Nat} (h : D30 f n) (j : Nat) : 0 ≤ exD f n j ∧ exD f n j < 1073741824 := by
  unfold exD
  split
  · exact h j (by assumption)
  · omega
theorem vB_ex {f : Nat → Int} {n : Nat} : ∀ (k : Nat), vB (exD f n) (n + k) = vB f n
  | 0 => vB_congr (fun j hj => by unfold exD; rw [if_pos (by omega)])
  | k + 1 => by
    rw [← Nat.add_assoc]
    simp only [vB]
    rw [vB_ex k]
    unfold exD
    rw [if_neg (by omega)]
    omega
theorem vB_ex' {f : Nat → Int} {n k : Nat} (h : n ≤ k) : vB (exD f n) k = vB f n := by
  have := vB_ex (f := f) (n := n) (k - n)
  rwa [show n + (k - n) = k by omega] at this
/-- the greatest digit that differs decides -/
theorem vB_cmp {f g : Nat → Int} : ∀ {n : Nat}, D30 f n → D30 g n → ∀ k, k < n → (∀ j, k < j → j < n → f j = g j) → f k < g k → vB f n < vB g n
  | 0, _, _, k, hk, _, _ => absurd hk (by omega)
  | n + 1, hf, hg, k, hk, he, hlt => by
    have hf' := hf.less (Nat.le_succ n)
    have hg' := hg.less (Nat.le_succ n)
    simp only [vB]
    by_cases e : k = n
    · subst e
      have h1 := vB_lt hf'
      have h2 := vB_nonneg hg'
      have h3 : (f k + 1) * 1073741824 ^ k ≤ g k * 1073741824 ^ k := Int.mul_le_mul_of_nonneg_right (by omega) (Int.le_of_lt (bpos k))
      have h4 : (f k + 1) * 1073741824 ^ k = f k * 1073741824 ^ k + 1073741824 ^ k := by rw [Int.add_mul, Int.one_mul]
      omega
    · have := vB_cmp hf' hg' k (by omega) (fun j h1 h2 => he j h1 (by omega)) hlt
      rw [he n (by omega) (by omega)]
      omega
def dgs (m : Nat → Int) (a : Nat) : Nat → Int := fun j => m (a + 1 + j)
theorem dgs_up {m : Nat → Int} {a j : Nat} {x : Int} : dgs (up1 m (a + 1 + j) x) a = up1 (dgs m a) j x := by
  funext i
  unfold dgs
  by_cases e : i = j
  · subst e; rw [up1_same, up1_same]
  · rw [up1_ne (by omega), up1_ne e]
/-- number v lies at a, in n digits -/
def BN (m : Nat → Int) (a n : Nat) (v : Int) : Prop := D30 (dgs m a) n ∧ (n = 0 ∨ m (a + n) ≠ 0) ∧ vB (dgs m a) n = (v.natAbs : Int) ∧ m a = if v < 0 then -(n : Int) else (n : Int)
theorem BN.zero {m : Nat → Int} {a n : Nat} {v : Int} (h : BN m a n v) : n = 0 ↔ v = 0 := by
  obtain ⟨h1, h2, h3, h4⟩ := h
  constructor
  · intro e; subst e; simp [vB] at h3; omega
  · intro e
    subst e
    rcases h2 with h2 | h2
    · exact h2
    · cases n with
      | zero => rfl
      | succ n =>
        exfalso
        have := vB_ge h1 (by unfold dgs; rw [show a + 1 + n = a + (n + 1) by omega]; exact h2)
        have := bpos n
        simp at h3
        omega
theorem BN.len {m : Nat → Int} {a n k : Nat} {v : Int} (h : BN m a n v) (hv : (v.natAbs : Int) < 1073741824 ^ k) : n ≤ k := by
  obtain ⟨h1, h2, h3, h4⟩ := h
  rcases Nat.lt_or_ge k n with q | q
  · exfalso
    obtain ⟨n', rfl⟩ : ∃ n', n = n' + 1 := ⟨n - 1, by omega⟩
    have h5 := vB_ge h1 (by unfold dgs; rw [show a + 1 + n' = a + (n' + 1) by omega]; exact h2.resolve_left (by omega))
    have h6 : (1073741824 : Int) ^ n' = 1073741824 ^ k * 1073741824 ^ (n' - k) := by rw [← Int.pow_add]; congr 1; omega
    have h7 := bpos (n' - k)
    have h8 : (1073741824 : Int) ^ k * 1 ≤ 1073741824 ^ k * 1073741824 ^ (n' - k) := Int.mul_le_mul_of_nonneg_left (by omega) (Int.le_of_lt (bpos k))
    omega
  · exact q
theorem BN.sgn {m : Nat → Int} {a n : Nat} {v : Int} (h : BN m a n v) : (m a < 0 ↔ v < 0) ∧ (m a = 0 ↔ v = 0) ∧ (m a).natAbs = n := by
  have hz := h.zero
  have h4 := h.2.2.2
  by_cases c : v < 0
  · rw [if_pos c] at h4; omega
  · rw [if_neg c] at h4; omega
theorem BN.keep {m m' : Nat → Int} {a n t : Nat} {v : Int} (h : BN m a n v) (ht : a + n < t) (e : ∀ j, j < t → m' j = m j) : BN m' a n v := by
  obtain ⟨h1, h2, h3, h4⟩ := h
  have ed : ∀ j, j < n → dgs m' a j = dgs m a j := fun j hj => e _ (by omega)
  exact ⟨fun j hj => by rw [ed j hj]; exact h1 j hj, by rw [e _ (by omega)]; exact h2, by rw [vB_congr ed]; exact h3, by rw [e _ (by omega)]; exact h4⟩
/-- an operation has laid number v at the old top t -/
def Got (M : Nat) (H H' : Mem) (t n : Nat) (v : Int) : Prop := FC M [0, 1] H H' ∧ FO [2] (H M) (H' M) ∧ H' M 2 = ((t + n + 1 : Nat) : Int) ∧ (∀ j, j < t → H' (M + 1) j = H (M + 1) j) ∧ BN (H' (M + 1)) t n v
section Bn
variable {d : Nat} {K : Shp} {H : Mem} {M : Nat} {q : Int → Mem → Prop}
theorem sp_X12_places {a n : Nat} {v : Int} (hk : RefS K M) (hp : RefP (H M) M) (ha : a + n < 20000) (hb : BN (H (M + 1)) a n v) (hq : q (n : Int) H) : Ci mX12_places d [(2, (M : Int)), (0, (a : Int))] K H q := by
  have hs := hb.sgn
  have h4 := hb.2.2.2
  refine eX12_places fun _ _ => bX12_places_0 ?_
  simp only [Int.toNat_natCast, Option.some.injEq, Prod.mk.injEq, true_and, and_true, exists_eq_left', hk.k0, hp.p1, hk.k1]
  refine ⟨by omega, by omega, by omega, by omega, fun g => ?_, fun g => ⟨?_, ?_⟩⟩
  · rw [show H (M + 1) a = (n : Int) by split at h4 <;> omega]; exact hq
  · unfold inI
    split at h4 <;> omega
  · rw [show -H (M + 1) a = (n : Int) by split at h4 <;> omega]; exact hq
theorem sp_X12_sign {a n : Nat} {v : Int} (hk : RefS K M) (hp : RefP (H M) M) (ha : a < 20000) (hb : BN (H (M + 1)) a n v) (hq : q v.sign H) : Ci mX12_sign d [(2, (M : Int)), (0, (a : Int))] K H q := by
  have hs := hb.sgn
  refine eX12_sign fun _ _ => bX12_sign_0 ?_
  simp only [Int.toNat_natCast, Option.some.injEq, Prod.mk.injEq, true_and, and_true, exists_eq_left', hk.k0, hp.p1, hk.k1]
  refine ⟨by omega, by omega, by omega, by omega, fun g => ⟨fun g2 => ?_, fun g2 => ?_⟩, fun g => ?_⟩
  · rw [show v = 0 by omega] at hq; exact hq
  · rw [Int.sign_eq_neg_one_of_neg (hs.1.mp g2)] at hq; exact hq
  · rw [Int.sign_eq_one_of_pos (by omega)] at hq; exact hq
theorem sp_X12_room {t n : Nat} (hk : RefS K M) (ht : H M 2 = (t : Int)) (hb : t + n < 100000) (hq : ∀ H', H' = upA H M (up1 (H M) 2 ((t + n + 1 : Nat) : Int)) → q (t : Int) H') : Ci mX12_room d [(2, (M : Int)), (0, (n : Int))] K H q := by
  refine eX12_room fun _ _ => bX12_room_0 ?_
  simp only [Int.toNat_natCast, Option.some.injEq, Prod.mk.injEq, true_and, and_true, exists_eq_left', hk.k0, ht]
  refine ⟨by omega, ⟨by omega, by omega⟩, ⟨by omega, by omega⟩, fun H5 e5 => hq H5 ?_⟩
  rw [e5]
  congr 3
theorem sp_X12_done {a n : Nat} {v b : Int} (hk : RefS K M) (hp : RefP (H M) M) (ha : a + n < 20000) (hD : D30 (dgs (H (M + 1)) a) n) (hv : vB (dgs (H (M + 1)) a) n = (v.natAbs : Int)) (hb0 : b = 0 → 0 ≤ v) (hb1 : b ≠ 0 → v ≤ 0)
    (hq : ∀ H' k, FC M [0, 1] H H' → FO [2] (H M) (H' M) → H' M 2 = ((a + k + 1 : Nat) : Int) → (∀ j, j ≠ a → H' (M + 1) j = H (M + 1) j) → k ≤ n → BN (H' (M + 1)) a k v → q (a : Int) H') : Ci mX12_done d [(2, (M : Int)), (0, (a : Int)), (0, (n : Int)), (0, b)] K H q := by
  refine eX12_done fun _ _ _ _ => bX12_done_0 ?_
  have fin : ∀ k, k ≤ n → vB (dgs (H (M + 1)) a) k = (v.natAbs : Int) → (k = 0 ∨ H (M + 1) (a + k) ≠ 0) → ∀ w : Int, (w = if b = 0 then (k : Int) else -(k : Int)) → ∀ H10, H10 = upA H (M + 1) (up1 (H (M + 1)) a w) → ∀ H13, H13 = upA H10 M (up1 (H10 M) 2 ((a : Int) + (k : Int) + 1)) → q (a : Int) H13 := by
    intro k hkn hvk htop w hw H10 e10 H13 e13
    have m13 : H13 (M + 1) = up1 (H (M + 1)) a w := by rw [e13, upA_ne (by omega), e10, upA_same]
    have mM : H13 M = up1 (H M) 2 ((a : Int) + (k : Int) + 1) := by rw [e13, upA_same, e10, upA_ne (by omega)]
    have ed : ∀ j, j < k → dgs (H13 (M + 1)) a j = dgs (H (M + 1)) a j := fun j _ => by unfold dgs; rw [m13, up1_ne (by omega)]
    refine hq H13 k ?_ ?_ ?_ ?_ hkn ⟨fun j hj => by rw [ed j hj]; exact hD j (by omega), ?_, by rw [vB_congr ed]; exact hvk, ?_⟩
    · intro x hx
      have z0 := hx 0 rfl
      have z1 := hx 1 rfl
      rw [e13, upA_ne (by omega), e10, upA_ne z1]
    · rw [mM]; exact FO.up rfl
    · rw [mM, up1_same]; omega
    · intro j hj; rw [m13, up1_ne hj]
    · rcases htop with h | h
      · exact Or.inl h
      · by_cases k0 : k = 0
        · exact Or.inl k0
        · right; rw [m13, up1_ne (by omega)]; exact h
    · rw [m13, up1_same, hw]
      have hk0 : v = 0 → k = 0 := by
        intro v0
        rcases htop with h | h
        · exact h
        · cases k with
          | zero => rfl
          | succ k =>
            exfalso
            have := vB_ge (hD.less hkn) (by unfold dgs; rw [show a + 1 + k = a + (k + 1) by omega]; exact h)
            have := bpos k
            rw [v0] at hvk
            simp at hvk
            omega
      by_cases b0 : b = 0
      · have := hb0 b0
        rw [if_pos b0, if_neg (by omega)]
      · have := hb1 b0
        rw [if_neg b0]
        by_cases v0 : v = 0
        · rw [if_neg (by omega), hk0 v0]; rfl
        · rw [if_pos (by omega)]
  have loop : ∀ k, k ≤ n → vB (dgs (H (M + 1)) a) k = (v.natAbs : Int) → FX12_done_3 d K H q (M : Int) (a : Int) b (k : Int) := by
    intro k
    induction k with
    | zero =>
      intro hkn hvk
      have f0 := fin 0 hkn hvk (Or.inl rfl)
      refine bX12_done_3 ⟨fun _ => ?_, fun g => absurd (by omega) g⟩
      simp only [Int.toNat_natCast, Option.some.injEq, Prod.mk.injEq, true_and, and_true, exists_eq_left', hk.k0, hp.p1, hk.k1]
      refine ⟨by omega, fun g => ⟨by omega, by omega, by omega, fun H10 e10 => ⟨⟨by omega, by omega⟩, ⟨by omega, by omega⟩, fun H13 e13 => f0 _ (by rw [if_pos g]) H10 e10 H13 e13⟩⟩, fun g => ⟨⟨by omega, by omega⟩, by omega, by omega, by omega, fun H10 e10 => ⟨⟨by omega, by omega⟩, ⟨by omega, by omega⟩, fun H13 e13 => f0 _ (by rw [if_neg g]) H10 e10 H13 e13⟩⟩⟩
    | succ k ih =>
      intro hkn hvk
      have ek : ((a : Int) + ((k + 1 : Nat) : Int)).toNat = a + (k + 1) := by omega
      refine bX12_done_3 ⟨fun g => absurd g (by omega), fun _ => ?_⟩
      simp only [Int.toNat_natCast, Option.some.injEq, Prod.mk.injEq, true_and, and_true, exists_eq_left', hk.k0, hp.p1, hk.k1, ek]
      refine ⟨by omega, ⟨by omega, by omega⟩, by omega, by omega, by omega, fun hne => ?_, fun heq => ⟨⟨by omega, by omega⟩, ?_⟩⟩
      · have f0 := fin (k + 1) hkn hvk (Or.inr hne)
        exact ⟨fun g => ⟨by omega, by omega, fun H10 e10 => ⟨⟨by omega, by omega⟩, fun H13 e13 => f0 _ (by rw [if_pos g]) H10 e10 H13 e13⟩⟩, fun g => ⟨⟨by omega, by omega⟩, by omega, by omega, fun H10 e10 => ⟨⟨by omega, by omega⟩, fun H13 e13 => f0 _ (by rw [if_neg g]) H10 e10 H13 e13⟩⟩⟩
      · rw [show ((k + 1 : Nat) : Int) + (-1) = (k : Int) by omega]
        refine ih (by omega) ?_
        simp only [vB] at hvk
        have : dgs (H (M + 1)) a k = 0 := by unfold dgs; rw [show a + 1 + k = a + (k + 1) by omega]; exact heq
        rw [this] at hvk
        omega
  exact loop n (Nat.le_refl n) hv
end Bn
