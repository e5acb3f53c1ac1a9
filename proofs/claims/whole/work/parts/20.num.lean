/-! numbers in digits of a thousand million: pure -/
theorem upA_same (H : Mem) (a : Nat) (f : Nat → Int) : upA H a f a = f := by unfold upA; rw [if_pos rfl]
theorem upA_ne {H : Mem} {a b : Nat} {f : Nat → Int} (h : b ≠ a) : upA H a f b = H b := by unfold upA; rw [if_neg h]
theorem upA_upA (H : Mem) (a : Nat) (f g : Nat → Int) : upA (upA H a f) a g = upA H a g := by
  funext x; unfold upA; split <;> rfl
theorem upA_self (H : Mem) (a : Nat) : upA H a (H a) = H := by
  funext x; unfold upA; split
  · next h => rw [h]
  · rfl
theorem up1_same (f : Nat → Int) (k : Nat) (x : Int) : up1 f k x k = x := by unfold up1; rw [if_pos rfl]
theorem up1_ne {f : Nat → Int} {k j : Nat} {x : Int} (h : j ≠ k) : up1 f k x j = f j := by unfold up1; rw [if_neg h]
/-- the number that the first n digits tell -/
def val (f : Nat → Int) : Nat → Int
  | 0 => 0
  | n + 1 => val f n + f n * 1000000000 ^ n
theorem val_congr {f g : Nat → Int} : ∀ {n : Nat}, (∀ j, j < n → f j = g j) → val f n = val g n
  | 0, _ => rfl
  | n + 1, h => by
    simp only [val]
    rw [val_congr (fun j hj => h j (by omega)), h n (by omega)]
theorem val_up {f : Nat → Int} {n k : Nat} {x : Int} (h : n ≤ k) : val (up1 f k x) n = val f n := val_congr (fun j hj => up1_ne (by omega))
def Dg (f : Nat → Int) (n : Nat) : Prop := ∀ j, j < n → 0 ≤ f j ∧ f j < 1000000000
theorem pow_pos9 (n : Nat) : (0 : Int) < 1000000000 ^ n := Int.pow_pos (by decide)
theorem val_nonneg {f : Nat → Int} : ∀ {n : Nat}, Dg f n → 0 ≤ val f n
  | 0, _ => Int.le_refl 0
  | n + 1, h => by
    have h1 := val_nonneg (n := n) (fun j hj => h j (by omega))
    have h2 := Int.mul_nonneg (h n (by omega)).1 (Int.le_of_lt (pow_pos9 n))
    simp only [val]; omega
theorem val_lt {f : Nat → Int} : ∀ {n : Nat}, Dg f n → val f n < 1000000000 ^ n
  | 0, _ => by simp [val]
  | n + 1, h => by
    have h1 := val_lt (n := n) (fun j hj => h j (by omega))
    have h2 : f n * 1000000000 ^ n ≤ 999999999 * 1000000000 ^ n := Int.mul_le_mul_of_nonneg_right (by have := (h n (by omega)).2; omega) (Int.le_of_lt (pow_pos9 n))
    have e : (1000000000 : Int) ^ (n + 1) = 1000000000 ^ n * 1000000000 := Int.pow_succ _ _
    simp only [val]; rw [e]; omega
/-- six digits tell v -/
def Dig (f : Nat → Int) (v : Int) : Prop := Dg f 6 ∧ val f 6 = v
theorem Dig.nonneg {f : Nat → Int} {v : Int} (h : Dig f v) : 0 ≤ v := h.2 ▸ val_nonneg h.1
theorem Dig.lt {f : Nat → Int} {v : Int} (h : Dig f v) : v < 1000000000000000000000000000000000000000000000000000000 := by
  have := val_lt h.1
  rw [h.2] at this
  exact this
/-- the greatest digit that differs decides -/
theorem val_cmp {f g : Nat → Int} : ∀ {n : Nat}, Dg f n → Dg g n → ∀ k, k < n → (∀ j, k < j → j < n → f j = g j) → f k < g k → val f n < val g n
  | 0, _, _, k, hk, _, _ => absurd hk (by omega)
  | n + 1, hf, hg, k, hk, he, hlt => by
    have hf' : Dg f n := fun j hj => hf j (by omega)
    have hg' : Dg g n := fun j hj => hg j (by omega)
    simp only [val]
    by_cases e : k = n
    · subst e
      have h1 := val_lt hf'
      have h2 := val_nonneg hg'
      have h3 : (f k + 1) * 1000000000 ^ k ≤ g k * 1000000000 ^ k := Int.mul_le_mul_of_nonneg_right (by omega) (Int.le_of_lt (pow_pos9 k))
      have h4 : (f k + 1) * 1000000000 ^ k = f k * 1000000000 ^ k + 1000000000 ^ k := by rw [Int.add_mul, Int.one_mul]
      omega
    · have := val_cmp hf' hg' k (by omega) (fun j h1 h2 => he j h1 (by omega)) hlt
      rw [he n (by omega) (by omega)]
      omega
theorem val_same {f g : Nat → Int} {n : Nat} (h : ∀ j, j < n → f j = g j) : val f n = val g n := val_congr h
theorem tdiv_pos {a b : Int} (ha : 0 ≤ a) : Int.tdiv a b = a / b := Int.tdiv_eq_ediv_of_nonneg ha
theorem tmod_pos {a b : Int} (ha : 0 ≤ a) : Int.tmod a b = a % b := Int.tmod_eq_emod_of_nonneg ha
theorem val_set {f : Nat → Int} {k : Nat} {x : Int} : ∀ {n : Nat}, k < n → val (up1 f k x) n = val f n + (x - f k) * 1000000000 ^ k
  | 0, h => absurd h (by omega)
  | n + 1, h => by
    simp only [val]
    by_cases e : k = n
    · subst e
      rw [val_up (Nat.le_refl k), up1_same, Int.sub_mul]; omega
    · rw [val_set (n := n) (by omega), up1_ne (fun q => e q.symm)]; omega
theorem val_split {f : Nat → Int} {m : Nat} : ∀ {n : Nat}, val f (m + n) = val f m + 1000000000 ^ m * val (fun j => f (m + j)) n
  | 0 => by simp [val]
  | n + 1 => by
    have e : m + (n + 1) = (m + n) + 1 := by omega
    rw [e]
    simp only [val]
    rw [val_split (n := n), Int.pow_add]
    grind
theorem Dg.setd {f : Nat → Int} {i n : Nat} {x : Int} (h : Dg f n) (h0 : 0 ≤ x) (h1 : x < 1000000000) : Dg (up1 f i x) n := by
  intro j hj
  by_cases e : j = i
  · rw [e, up1_same]; exact ⟨h0, h1⟩
  · rw [up1_ne e]; exact h j hj
/-- the number told by the digits from i on -/
def hiv (f : Nat → Int) (i : Nat) : Int := val (fun j => f (i + j)) (6 - i)
theorem hiv_6 (f : Nat → Int) : hiv f 6 = 0 := rfl
theorem val_cons {f : Nat → Int} {n : Nat} : val f (n + 1) = f 0 + 1000000000 * val (fun j => f (1 + j)) n := by
  have h := val_split (f := f) (m := 1) (n := n)
  rw [Nat.add_comm 1 n] at h
  rw [h]
  simp [val]
theorem hiv_step {f : Nat → Int} {i : Nat} (h : i < 6) : hiv f i = hiv f (i + 1) * 1000000000 + f i := by
  unfold hiv
  obtain ⟨n, hn⟩ : ∃ n, 6 - i = n + 1 := ⟨5 - i, by omega⟩
  rw [hn, val_cons, show 6 - (i + 1) = n by omega]
  have e : (fun j => f (i + (1 + j))) = fun j => f (i + 1 + j) := by funext j; rw [Nat.add_assoc]
  rw [e]
  simp only [Nat.add_zero]
  omega
theorem hiv_0 (f : Nat → Int) : hiv f 0 = val f 6 := by
  unfold hiv
  simp
theorem hiv_up {f : Nat → Int} {i k : Nat} {x : Int} (h : k < i) : hiv (up1 f k x) i = hiv f i := by
  unfold hiv
  exact val_congr (fun j hj => up1_ne (by omega))
