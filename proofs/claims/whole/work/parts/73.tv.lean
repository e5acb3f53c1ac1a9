/-! TIMES as a pair of numbers; the least of them -/
def hogV (c : Nat) (h0 h1 : Int) (hg : Nat → Int × Int) (k : Nat) : Int × Int :=
  if k = 0 ∧ h0 = 0 ∨ c ≤ k ∧ h1 = 0 then (0, 1) else if k = 0 then hg 0 else if c ≤ k then hg (k - 1) else if (hg (k - 1)).1 * (hg k).2 < (hg k).1 * (hg (k - 1)).2 then hg (k - 1) else hg k
theorem hogV_ind {P : Int × Int → Prop} {c k : Nat} {h0 h1 : Int} {hg : Nat → Int × Int} (p0 : P (0, 1)) (hb : ∀ j, j < c → P (hg j)) (hc : 1 ≤ c) (hk : k ≤ c) : P (hogV c h0 h1 hg k) := by
  unfold hogV
  split
  · exact p0
  · split
    · exact hb 0 (by omega)
    · split
      · exact hb _ (by omega)
      · split
        · exact hb _ (by omega)
        · exact hb _ (by omega)
theorem pr_eq {T B : Int} {x : Int × Int} (h : (T, B) = x) : x.1 = T ∧ x.2 = B := by rw [← h]; exact ⟨rfl, rfl⟩
theorem HogIs.val {c k : Nat} {h0 h1 T B : Int} {hg : Nat → Int × Int} (h : HogIs c h0 h1 hg k T B) : T * (hogV c h0 h1 hg k).2 = (hogV c h0 h1 hg k).1 * B := by
  unfold hogV
  rcases h with ⟨g, e1, e2⟩ | ⟨g, g2, e⟩ | ⟨g, g2, g3, e⟩ | ⟨g1, g2, e, l1, l2⟩
  · rw [if_pos g, e1, e2]
  · rw [if_neg g, if_pos g2, ← e]
  · rw [if_neg g, if_neg (by omega), if_pos g3, ← e]
  · rw [if_neg (by omega), if_neg (by omega), if_neg (by omega)]
    split
    · next hl =>
      rcases e with e | e
      · rw [← e]
      · have := pr_eq e
        rw [this.1, this.2] at hl
        rw [Int.mul_comm] at hl
        rw [Int.mul_comm B] at hl
        omega
    · next hl =>
      rcases e with e | e
      · have := pr_eq e
        rw [this.1, this.2] at hl
        omega
      · rw [← e]
theorem tim_val {S D T1 C1 T2 C2 U1 V1 U2 V2 L x F p r : Int} (e1 : T1 * V1 = U1 * C1) (e2 : T2 * V2 = U2 * C2) (h1 : 0 < C1) (h2 : 0 < C2) (e : p * (D * C1 * C2 * F) = timT S D T1 C1 T2 C2 L x * r) : p * (D * V1 * V2 * F) = timT S D U1 V1 U2 V2 L x * r := by
  have key : timT S D T1 C1 T2 C2 L x * (V1 * V2) = timT S D U1 V1 U2 V2 L x * (C1 * C2) := by
    unfold timT
    clear e h1 h2
    grind
  have n : C1 * C2 ≠ 0 := Int.ne_of_gt (Int.mul_pos h1 h2)
  refine Int.eq_of_mul_eq_mul_right n ?_
  have a : p * (D * V1 * V2 * F) * (C1 * C2) = p * (D * C1 * C2 * F) * (V1 * V2) := by clear e e1 e2 key n h1 h2; grind
  rw [a, e, Int.mul_right_comm, key, Int.mul_right_comm]
def timV (c : Nat) (h0 h1 : Int) (hg : Nat → Int × Int) (sg : Int × Int) (L : Int) (pl wt : Nat → Int) (ld n l : Nat) : Int × Int :=
  (timT sg.1 sg.2 (hogV c h0 h1 hg n).1 (hogV c h0 h1 hg n).2 (hogV c h0 h1 hg (n + 1)).1 (hogV c h0 h1 hg (n + 1)).2 L (pl l), sg.2 * (hogV c h0 h1 hg n).2 * (hogV c h0 h1 hg (n + 1)).2 * sumN (freeT L pl wt (pl l)) ld)
def tV (H : Mem) (X c : Nat) (nb nr sx ld : Nat → Nat) (n l : Nat) : Int × Int := timV c (H (X + 23) 0) (H (X + 23) 1) (hgF H X nb nr sx 0) (hgF H X nb nr sx 1 n) (H (X + 54 + 3 * n) 0) (H (X + 54 + 3 * n + 1)) (H (X + 54 + 3 * n + 2)) (ld n) n l
/-! fractions -/
theorem flt_le {a b c e f g : Int} (hb : 0 < b) (he : 0 < e) (hg : 0 < g) (h1 : a * e < c * b) (h2 : c * g ≤ f * e) : a * g < f * b := by
  have x1 := Int.mul_lt_mul_of_pos_right h1 hg
  have x2 := Int.mul_le_mul_of_nonneg_right h2 (Int.le_of_lt hb)
  have y1 : a * e * g = a * g * e := Int.mul_right_comm _ _ _
  have y2 : c * b * g = c * g * b := Int.mul_right_comm _ _ _
  have y3 : f * e * b = f * b * e := Int.mul_right_comm _ _ _
  exact Int.lt_of_mul_lt_mul_right (a := e) (by omega) (Int.le_of_lt he)
theorem fle_le {a b c e f g : Int} (hb : 0 < b) (he : 0 < e) (hg : 0 < g) (h1 : a * e ≤ c * b) (h2 : c * g ≤ f * e) : a * g ≤ f * b := by
  have x1 := Int.mul_le_mul_of_nonneg_right h1 (Int.le_of_lt hg)
  have x2 := Int.mul_le_mul_of_nonneg_right h2 (Int.le_of_lt hb)
  have y1 : a * e * g = a * g * e := Int.mul_right_comm _ _ _
  have y2 : c * b * g = c * g * b := Int.mul_right_comm _ _ _
  have y3 : f * e * b = f * b * e := Int.mul_right_comm _ _ _
  exact Int.le_of_mul_le_mul_right (a := e) (by omega) he
theorem feq_lt {p1 r1 u1 w1 p2 r2 u2 w2 : Int} (h1 : p1 * w1 = u1 * r1) (h2 : p2 * w2 = u2 * r2) (hr1 : 0 < r1) (hw1 : 0 < w1) (hr2 : 0 < r2) (hw2 : 0 < w2) : p1 * r2 < p2 * r1 ↔ u1 * w2 < u2 * w1 := by
  constructor
  · intro h
    have a : u1 * r2 < p2 * w1 := by
      have x := Int.mul_lt_mul_of_pos_right h hw1
      have y1 : p1 * r2 * w1 = u1 * r2 * r1 := by rw [Int.mul_right_comm, h1, Int.mul_right_comm]
      have y2 : p2 * r1 * w1 = p2 * w1 * r1 := Int.mul_right_comm _ _ _
      exact Int.lt_of_mul_lt_mul_right (a := r1) (by omega) (Int.le_of_lt hr1)
    have x := Int.mul_lt_mul_of_pos_right a hw2
    have y1 : u1 * r2 * w2 = u1 * w2 * r2 := Int.mul_right_comm _ _ _
    have y2 : p2 * w1 * w2 = u2 * w1 * r2 := by rw [Int.mul_right_comm, h2, Int.mul_right_comm]
    exact Int.lt_of_mul_lt_mul_right (a := r2) (by omega) (Int.le_of_lt hr2)
  · intro h
    have a : p1 * w2 < u2 * r1 := by
      have x := Int.mul_lt_mul_of_pos_right h hr1
      have y1 : u1 * w2 * r1 = p1 * w2 * w1 := by rw [Int.mul_right_comm, ← h1, Int.mul_right_comm]
      have y2 : u2 * w1 * r1 = u2 * r1 * w1 := Int.mul_right_comm _ _ _
      exact Int.lt_of_mul_lt_mul_right (a := w1) (by omega) (Int.le_of_lt hw1)
    have x := Int.mul_lt_mul_of_pos_right a hr2
    have y1 : p1 * w2 * r2 = p1 * r2 * w2 := Int.mul_right_comm _ _ _
    have y2 : u2 * r1 * r2 = p2 * r1 * w2 := by rw [Int.mul_right_comm, ← h2, Int.mul_right_comm]
    exact Int.lt_of_mul_lt_mul_right (a := w2) (by omega) (Int.le_of_lt hw2)
/-! the first least -/
def Vis (ld : Nat → Nat) (a b i k : Nat) : Prop := k < ld i ∧ (i < a ∨ (i = a ∧ k < b))
def LeastIn (tv : Nat → Nat → Int × Int) (ld : Nat → Nat) (a b i k : Nat) : Prop := Vis ld a b i k ∧ ∀ i' k', Vis ld a b i' k' → (tv i k).1 * (tv i' k').2 < (tv i' k').1 * (tv i k).2 ∨ ((tv i k).1 * (tv i' k').2 = (tv i' k').1 * (tv i k).2 ∧ (i < i' ∨ (i = i' ∧ k ≤ k')))
section Lst
variable {tv : Nat → Nat → Int × Int} {ld : Nat → Nat} {a b i k : Nat}
theorem Vis.next (h : Vis ld a (b + 1) i k) : Vis ld a b i k ∨ (i = a ∧ k = b) := by
  unfold Vis at *; omega
theorem Vis.mono (h : Vis ld a b i k) : Vis ld a (b + 1) i k := by unfold Vis at *; omega
theorem Vis.row (h : Vis ld (a + 1) 0 i k) (hb : ld a ≤ b) : Vis ld a b i k := by
  obtain ⟨h1, h2⟩ := h
  refine ⟨h1, ?_⟩
  by_cases e : i = a
  · subst e; omega
  · omega
theorem Vis.row' (h : Vis ld a b i k) : Vis ld (a + 1) 0 i k := by unfold Vis at *; omega
theorem LeastIn.first (hb : b < ld a) (no : ∀ i k, ¬ Vis ld a b i k) : LeastIn tv ld a (b + 1) a b := by
  refine ⟨⟨hb, by omega⟩, fun i' k' h => ?_⟩
  rcases h.next with h | ⟨e1, e2⟩
  · exact absurd h (no _ _)
  · subst e1 e2; exact Or.inr ⟨rfl, by omega⟩
theorem LeastIn.new (h : LeastIn tv ld a b i k) (hb : b < ld a) (hp : ∀ i k, Vis ld a (b + 1) i k → 0 < (tv i k).2) (hlt : (tv a b).1 * (tv i k).2 < (tv i k).1 * (tv a b).2) : LeastIn tv ld a (b + 1) a b := by
  have va : Vis ld a (b + 1) a b := ⟨hb, by omega⟩
  refine ⟨va, fun i' k' hv => ?_⟩
  rcases hv.next with g | ⟨e1, e2⟩
  · refine Or.inl (flt_le (hp _ _ va) (hp _ _ h.1.mono) (hp _ _ hv) hlt ?_)
    rcases h.2 i' k' g with x | x
    · exact Int.le_of_lt x
    · exact Int.le_of_eq x.1
  · subst e1 e2; exact Or.inr ⟨rfl, by omega⟩
theorem LeastIn.old (h : LeastIn tv ld a b i k) (hle : ¬ (tv a b).1 * (tv i k).2 < (tv i k).1 * (tv a b).2) : LeastIn tv ld a (b + 1) i k := by
  refine ⟨h.1.mono, fun i' k' hv => ?_⟩
  rcases hv.next with g | ⟨e1, e2⟩
  · exact h.2 i' k' g
  · subst e1 e2
    have := h.1.2
    by_cases g : (tv i k).1 * (tv i' k').2 < (tv i' k').1 * (tv i k).2
    · exact Or.inl g
    · exact Or.inr ⟨by omega, by omega⟩
theorem LeastIn.row (h : LeastIn tv ld a b i k) (hb : ld a ≤ b) : LeastIn tv ld (a + 1) 0 i k := ⟨h.1.row', fun i' k' hv => h.2 i' k' (hv.row hb)⟩
theorem LeastIn.unique {i2 k2 : Nat} (h : LeastIn tv ld a b i k) (h2 : LeastIn tv ld a b i2 k2) : i = i2 ∧ k = k2 := by
  have x := h.2 _ _ h2.1
  have y := h2.2 _ _ h.1
  omega
end Lst
