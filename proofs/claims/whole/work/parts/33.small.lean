/-! Pairs, Sizes, Span -/
/-- an object of kind kd with a count and two arrays of n ints behind it -/
def TriK (kd n : Nat) (K : Shp) (H : Mem) (p : Nat) : Prop := K[p]? = some (kd, 3) ∧ K[p + 1]? = some (20, n) ∧ K[p + 2]? = some (20, n) ∧ H p 1 = ((p + 1 : Nat) : Int) ∧ H p 2 = ((p + 2 : Nat) : Int)
theorem sp_X2_add {d : Nat} {K : Shp} {H : Mem} {p c : Nat} {n m : Int} (h : TriK 2 8 K H p) (hc : H p 0 = (c : Int)) (hc2 : c < 8) : Ci mX2_add d [(2, (p : Int)), (0, n), (0, m)] K H (fun y H' => y = (c : Int) ∧ H' = upA (upA (upA H (p + 1) (up1 (H (p + 1)) c n)) (p + 2) (up1 (H (p + 2)) c m)) p (up1 (H p) 0 ((c : Int) + 1))) := by
  obtain ⟨k1, k2, k3, r1, r2⟩ := h
  refine eX2_add fun _ _ _ => ?_
  refine bX2_add_0 ?_
  simp only [Int.toNat_natCast, r1, hc]
  refine ⟨by omega, k1, by omega, 8, k2, by omega, by omega, ?_⟩
  rintro _ rfl
  have e1 : upA H (p + 1) (up1 (H (p + 1)) c n) p = H p := upA_ne (by omega)
  have e2 : upA H (p + 1) (up1 (H (p + 1)) c n) (p + 2) = H (p + 2) := upA_ne (by omega)
  rw [e1, r2, hc, Int.toNat_natCast, Int.toNat_natCast, e2]
  refine ⟨by omega, 8, k3, by omega, by omega, ?_⟩
  rintro _ rfl
  have e3 : upA (upA H (p + 1) (up1 (H (p + 1)) c n)) (p + 2) (up1 (H (p + 2)) c m) p = H p := by rw [upA_ne (by omega), e1]
  rw [e3, hc]
  refine ⟨⟨by omega, by omega⟩, ?_⟩
  rintro _ rfl
  rw [upA_same, up1_same]
  exact ⟨⟨by omega, by omega⟩, by omega, rfl⟩
theorem sp_X6_add {d : Nat} {K : Shp} {H : Mem} {p c : Nat} {n m : Int} (h : TriK 6 4 K H p) (hc : H p 0 = (c : Int)) (hc2 : c < 4) : Ci mX6_add d [(2, (p : Int)), (0, n), (0, m)] K H (fun y H' => y = (c : Int) ∧ H' = upA (upA (upA H (p + 1) (up1 (H (p + 1)) c n)) (p + 2) (up1 (H (p + 2)) c m)) p (up1 (H p) 0 ((c : Int) + 1))) := by
  obtain ⟨k1, k2, k3, r1, r2⟩ := h
  refine eX6_add fun _ _ _ => ?_
  refine bX6_add_0 ?_
  simp only [Int.toNat_natCast, r1, hc]
  refine ⟨by omega, k1, by omega, 4, k2, by omega, by omega, ?_⟩
  rintro _ rfl
  have e1 : upA H (p + 1) (up1 (H (p + 1)) c n) p = H p := upA_ne (by omega)
  have e2 : upA H (p + 1) (up1 (H (p + 1)) c n) (p + 2) = H (p + 2) := upA_ne (by omega)
  rw [e1, r2, hc, Int.toNat_natCast, Int.toNat_natCast, e2]
  refine ⟨by omega, 4, k3, by omega, by omega, ?_⟩
  rintro _ rfl
  have e3 : upA (upA H (p + 1) (up1 (H (p + 1)) c n)) (p + 2) (up1 (H (p + 2)) c m) p = H p := by rw [upA_ne (by omega), e1]
  rw [e3, hc]
  refine ⟨⟨by omega, by omega⟩, ?_⟩
  rintro _ rfl
  rw [upA_same, up1_same]
  exact ⟨⟨by omega, by omega⟩, by omega, rfl⟩
/-- what number 'num' of a list f of c tells: 0 for none -/
def szOf (f : Nat → Int) (c : Nat) (num : Int) : Int := if 0 ≤ num ∧ num < c then f num.toNat else 0
theorem sp_X6_strengthOf {d : Nat} {K : Shp} {H : Mem} {p c : Nat} {num : Int} (h : TriK 6 4 K H p) (hc : H p 0 = (c : Int)) (hc2 : c ≤ 4) : Ci mX6_strengthOf d [(2, (p : Int)), (0, num)] K H (fun y H' => y = szOf (H (p + 1)) c num ∧ H' = H) := by
  obtain ⟨k1, k2, k3, r1, r2⟩ := h
  refine eX6_strengthOf fun _ _ => ?_
  refine bX6_strengthOf_0 ?_
  unfold szOf
  simp only [Int.toNat_natCast, r1, hc]
  refine ⟨fun h => ⟨by rw [if_neg (by omega)], trivial⟩, fun h => ⟨by omega, k1, fun h2 => ⟨by rw [if_neg (by omega)], trivial⟩, fun h2 => ⟨by omega, 4, k2, by omega, by omega, by rw [if_pos (by omega)], trivial⟩⟩⟩
theorem sp_X6_priceOf {d : Nat} {K : Shp} {H : Mem} {p c : Nat} {num : Int} (h : TriK 6 4 K H p) (hc : H p 0 = (c : Int)) (hc2 : c ≤ 4) : Ci mX6_priceOf d [(2, (p : Int)), (0, num)] K H (fun y H' => y = szOf (H (p + 2)) c num ∧ H' = H) := by
  obtain ⟨k1, k2, k3, r1, r2⟩ := h
  refine eX6_priceOf fun _ _ => ?_
  refine bX6_priceOf_0 ?_
  unfold szOf
  simp only [Int.toNat_natCast, r2, hc]
  refine ⟨fun h => ⟨by rw [if_neg (by omega)], trivial⟩, fun h => ⟨by omega, k1, fun h2 => ⟨by rw [if_neg (by omega)], trivial⟩, fun h2 => ⟨by omega, 4, k3, by omega, by omega, by rw [if_pos (by omega)], trivial⟩⟩⟩
/-- the greatest of the first n, at least 0 -/
def maxN (f : Nat → Int) : Nat → Int
  | 0 => 0
  | n + 1 => max (maxN f n) (f n)
theorem sp_X6_strongest {d : Nat} {K : Shp} {H : Mem} {p c : Nat} (h : TriK 6 4 K H p) (hc : H p 0 = (c : Int)) (hc2 : c ≤ 4) : Ci mX6_strongest (d + 1) [(2, (p : Int))] K H (fun y H' => y = maxN (H (p + 1)) c ∧ H' = H) := by
  obtain ⟨k1, k2, k3, r1, r2⟩ := h
  refine eX6_strongest fun _ => ?_
  refine bX6_strongest_0 ?_
  have loop : ∀ (n i : Nat), i + n = c → FX6_strongest_4 d K H (fun y H' => y = maxN (H (p + 1)) c ∧ H' = H) (p : Int) (maxN (H (p + 1)) i) (i : Int) := by
    intro n
    induction n with
    | zero =>
      intro i hi
      refine bX6_strongest_4 ?_
      simp only [Int.toNat_natCast, r1, hc]
      have e : i = c := by omega
      subst e
      exact ⟨by omega, k1, fun _ => ⟨rfl, trivial⟩, fun h => absurd h (by omega)⟩
    | succ n ih =>
      intro i hi
      refine bX6_strongest_4 ?_
      simp only [Int.toNat_natCast, r1, hc]
      exact ⟨by omega, k1, fun h => absurd (by omega) h, fun _ => ⟨by omega, 4, k2, by omega, by omega, ⟨by omega, by omega⟩, ih (i + 1) (by omega)⟩⟩
  exact loop c 0 (by omega)
