/-! sums over the first n; RodBeam$Section: pictures and methods that only read -/
def sumN (g : Nat → Int) : Nat → Int
  | 0 => 0
  | n + 1 => sumN g n + g n
theorem sumN_congr {f g : Nat → Int} : ∀ {n : Nat}, (∀ j, j < n → f j = g j) → sumN f n = sumN g n
  | 0, _ => rfl
  | n + 1, h => by
    simp only [sumN]
    rw [sumN_congr (fun j hj => h j (by omega)), h n (by omega)]
theorem sumN_bd {g : Nat → Int} {c : Int} : ∀ {n : Nat}, (∀ j, j < n → 0 ≤ g j ∧ g j ≤ c) → 0 ≤ sumN g n ∧ sumN g n ≤ (n : Int) * c
  | 0, _ => by simp [sumN]
  | n + 1, h => by
    have h1 := sumN_bd (n := n) (fun j hj => h j (by omega))
    have h2 := h n (by omega)
    have e : ((n + 1 : Nat) : Int) * c = (n : Int) * c + c := by rw [Int.natCast_succ, Int.add_mul, Int.one_mul]
    simp only [sumN]
    rw [e]
    omega
theorem sumN_le {f g : Nat → Int} : ∀ {n : Nat}, (∀ j, j < n → f j ≤ g j) → sumN f n ≤ sumN g n
  | 0, _ => Int.le_refl _
  | n + 1, h => by
    have h1 := sumN_le (n := n) (fun j hj => h j (by omega))
    have h2 := h n (by omega)
    simp only [sumN]
    omega
theorem sumN_lt {f g : Nat → Int} {i : Nat} : ∀ {n : Nat}, i < n → (∀ j, j < n → f j ≤ g j) → f i + 1 ≤ g i → sumN f n + 1 ≤ sumN g n
  | 0, h, _, _ => absurd h (by omega)
  | n + 1, hi, h, h1 => by
    simp only [sumN]
    have h2 := h n (by omega)
    by_cases e : i = n
    · subst e
      have := sumN_le (n := i) (f := f) (g := g) (fun j hj => h j (by omega))
      omega
    · have := sumN_lt (n := n) (f := f) (g := g) (i := i) (by omega) (fun j hj => h j (by omega)) h1
      omega
theorem sumN_zero {n : Nat} {g : Nat → Int} (h : ∀ j, j < n → g j = 0) : sumN g n = 0 := by
  induction n with
  | zero => rfl
  | succ n ih =>
    simp only [sumN]
    rw [ih (fun j hj => h j (by omega)), h n (by omega)]
    rfl
theorem sumN_add {f g : Nat → Int} : ∀ (n : Nat), sumN (fun j => f j + g j) n = sumN f n + sumN g n
  | 0 => rfl
  | n + 1 => by
    simp only [sumN]
    rw [sumN_add n]
    omega
/-- one of the n from i on -/
def anyF (p : Nat → Bool) : Nat → Nat → Bool
  | _, 0 => false
  | i, n + 1 => p i || anyF p (i + 1) n
theorem anyF_iff {p : Nat → Bool} : ∀ (n i : Nat), anyF p i n = true ↔ ∃ j, i ≤ j ∧ j < i + n ∧ p j = true
  | 0, i => by
    simp only [anyF]
    constructor
    · intro h; cases h
    · rintro ⟨j, h1, h2, -⟩; omega
  | n + 1, i => by
    simp only [anyF, Bool.or_eq_true]
    rw [anyF_iff n (i + 1)]
    constructor
    · rintro (h | ⟨j, h1, h2, h3⟩)
      · exact ⟨i, by omega, by omega, h⟩
      · exact ⟨j, by omega, by omega, h3⟩
    · rintro ⟨j, h1, h2, h3⟩
      by_cases e : j = i
      · subst e; exact Or.inl h3
      · exact Or.inr ⟨j, by omega, by omega, h3⟩
def bI (b : Bool) : Int := match b with
  | true => 1
  | false => 0
def areaF (bw bf bt : Nat → Int) (n : Nat) : Int := sumN (fun b => bw b * (bt b - bf b)) n
/-- the width right above y -/
def wAt (bw bf bt : Nat → Int) (n : Nat) (y : Int) : Int := sumN (fun b => if bf b ≤ y ∧ y < bt b then bw b else 0) n
/-- the RODS at y -/
def rAt (rh us : Nat → Int) (n : Nat) (y : Int) : Int := sumN (fun r => if rh r = y then us r else 0) n
def isE (bf bt : Nat → Int) (nb : Nat) (rh : Nat → Int) (nr : Nat) (y : Int) : Bool :=
  (decide (y = 0) || decide (y = 100)) || anyF (fun b => decide (bf b = y) || decide (bt b = y)) 0 nb || anyF (fun r => decide (rh r = y)) 0 nr
def cntE (bf bt : Nat → Int) (nb : Nat) (rh : Nat → Int) (nr : Nat) : Nat → Nat
  | 0 => 0
  | y + 1 => cntE bf bt nb rh nr y + (if isE bf bt nb rh nr (y : Int) = true then 1 else 0)
def BandB (bw bf bt : Nat → Int) (nb : Nat) : Prop := nb ≤ 8 ∧ ∀ b, b < nb → 1 ≤ bw b ∧ bw b ≤ 100 ∧ 0 ≤ bf b ∧ bf b < bt b ∧ bt b ≤ 100
def RodB (rh : Nat → Int) (nr : Nat) : Prop := nr ≤ 6 ∧ ∀ r, r < nr → 0 ≤ rh r ∧ rh r ≤ 100
def StrB (us : Nat → Int) (nr : Nat) : Prop := ∀ r, r < nr → 0 ≤ us r ∧ us r ≤ 200
/-- a section's shapes -/
def SecS (K : Shp) (s : Nat) : Prop := K[s]? = some (4, 18) ∧ K[s + 1]? = some (20, 8) ∧ K[s + 2]? = some (20, 8) ∧ K[s + 3]? = some (20, 8) ∧ K[s + 4]? = some (20, 6) ∧ K[s + 5]? = some (20, 6) ∧ K[s + 6]? = some (20, 24) ∧ K[s + 7]? = some (20, 24) ∧ K[s + 8]? = some (20, 6) ∧ K[s + 9]? = some (20, 6)
/-- what its fields point at -/
def SecP (g : Nat → Int) (s : Nat) : Prop := g 4 = ((s + 1 : Nat) : Int) ∧ g 5 = ((s + 2 : Nat) : Int) ∧ g 6 = ((s + 3 : Nat) : Int) ∧ g 8 = ((s + 4 : Nat) : Int) ∧ g 9 = ((s + 5 : Nat) : Int) ∧ g 11 = ((s + 6 : Nat) : Int) ∧ g 12 = ((s + 7 : Nat) : Int) ∧ g 13 = ((s + 8 : Nat) : Int) ∧ g 17 = ((s + 9 : Nat) : Int)
theorem band_bd {w f t : Int} (h1 : 1 ≤ w) (h2 : w ≤ 100) (h3 : 0 ≤ f) (h4 : f < t) (h5 : t ≤ 100) : 0 ≤ w * (t - f) ∧ w * (t - f) ≤ 10000 :=
  ⟨Int.mul_nonneg (by omega) (by omega), Int.mul_le_mul (c := 100) (d := 100) h2 (by omega) (by omega) (by omega)⟩
theorem area_bd {bw bf bt : Nat → Int} {nb : Nat} (h : BandB bw bf bt nb) : ∀ i, i ≤ nb → 0 ≤ areaF bw bf bt i ∧ areaF bw bf bt i ≤ (i : Int) * 10000 := fun i hi =>
  sumN_bd (fun j hj => have q := h.2 j (by omega); band_bd q.1 q.2.1 q.2.2.1 q.2.2.2.1 q.2.2.2.2)
theorem wAt_bd {bw bf bt : Nat → Int} {nb : Nat} (h : BandB bw bf bt nb) (y : Int) : ∀ i, i ≤ nb → 0 ≤ wAt bw bf bt i y ∧ wAt bw bf bt i y ≤ (i : Int) * 100 := fun i hi =>
  sumN_bd (fun j hj => by
    have q := h.2 j (by omega)
    show 0 ≤ (if bf j ≤ y ∧ y < bt j then bw j else 0) ∧ (if bf j ≤ y ∧ y < bt j then bw j else 0) ≤ 100
    split <;> omega)
theorem rAt_bd {rh us : Nat → Int} {nr : Nat} (h : StrB us nr) (y : Int) : ∀ i, i ≤ nr → 0 ≤ rAt rh us i y ∧ rAt rh us i y ≤ (i : Int) * 200 := fun i hi =>
  sumN_bd (fun j hj => by
    have q := h j (by omega)
    show 0 ≤ (if rh j = y then us j else 0) ∧ (if rh j = y then us j else 0) ≤ 200
    split <;> omega)
theorem pull_bd {us : Nat → Int} {nr : Nat} (h : StrB us nr) : ∀ i, i ≤ nr → 0 ≤ sumN us i ∧ sumN us i ≤ (i : Int) * 200 := fun i hi => sumN_bd (fun j hj => h j (by omega))
section SecRead
variable {d : Nat} {K : Shp} {H : Mem} {s nb nr : Nat} {q : Int → Mem → Prop}
theorem sp_X4_area (hk : SecS K s) (hp : SecP (H s) s) (hn : H s 3 = (nb : Int)) (hB : BandB (H (s + 1)) (H (s + 2)) (H (s + 3)) nb) (hq : q (areaF (H (s + 1)) (H (s + 2)) (H (s + 3)) nb) H) : Ci mX4_area d [(2, (s : Int))] K H q := by
  obtain ⟨k0, k1, k2, k3, -⟩ := hk
  obtain ⟨p4, p5, p6, -⟩ := hp
  refine eX4_area fun _ => bX4_area_0 ?_
  have loop : ∀ (n i : Nat), i + n = nb → FX4_area_4 d K H q (s : Int) (areaF (H (s + 1)) (H (s + 2)) (H (s + 3)) i) (i : Int) := by
    intro n
    induction n with
    | zero =>
      intro i hi
      have e : i = nb := by omega
      subst e
      refine bX4_area_4 ?_
      simp only [Int.toNat_natCast, Option.some.injEq, Prod.mk.injEq, true_and, and_true, exists_eq_left', forall_eq, hn]
      exact ⟨by omega, k0, fun _ => hq, fun h => absurd h (by omega)⟩
    | succ n ih =>
      intro i hi
      have hb1 := area_bd hB i (by omega)
      have hb8 := hB.1
      have w := hB.2 i (by omega)
      have hb2 := band_bd w.1 w.2.1 w.2.2.1 w.2.2.2.1 w.2.2.2.2
      refine bX4_area_4 ?_
      simp only [Int.toNat_natCast, Option.some.injEq, Prod.mk.injEq, true_and, and_true, exists_eq_left', forall_eq, hn, p4, p5, p6, k0, k1, k2, k3]
      refine ⟨by omega, fun h => absurd (by omega) h, fun _ => ?_⟩
      have := ih (i + 1) (by omega)
      (repeat' first | omega | exact this | refine And.intro ?_ ?_ | intro _)
  exact loop nb 0 (by omega)
theorem sp_X4_rodsTogether (hk : SecS K s) (hp : SecP (H s) s) (hn : H s 7 = (nr : Int)) (h6 : nr ≤ 6) (hS : StrB (H (s + 5)) nr) (hq : q (sumN (H (s + 5)) nr) H) : Ci mX4_rodsTogether d [(2, (s : Int))] K H q := by
  obtain ⟨k0, k1, k2, k3, k4, k5, -⟩ := hk
  obtain ⟨p4, p5, p6, p8, p9, -⟩ := hp
  refine eX4_rodsTogether fun _ => bX4_rodsTogether_0 ?_
  have loop : ∀ (n i : Nat), i + n = nr → FX4_rodsTogether_4 d K H q (s : Int) (sumN (H (s + 5)) i) (i : Int) := by
    intro n
    induction n with
    | zero =>
      intro i hi
      have e : i = nr := by omega
      subst e
      refine bX4_rodsTogether_4 ?_
      simp only [Int.toNat_natCast, Option.some.injEq, Prod.mk.injEq, true_and, and_true, exists_eq_left', forall_eq, hn]
      exact ⟨by omega, k0, fun _ => hq, fun h => absurd h (by omega)⟩
    | succ n ih =>
      intro i hi
      have hb1 := pull_bd hS i (by omega)
      have w := hS i (by omega)
      refine bX4_rodsTogether_4 ?_
      simp only [Int.toNat_natCast, Option.some.injEq, Prod.mk.injEq, true_and, and_true, exists_eq_left', forall_eq, hn, p9, k0, k5]
      refine ⟨by omega, fun h => absurd (by omega) h, fun _ => ?_⟩
      have := ih (i + 1) (by omega)
      (repeat' first | omega | exact this | refine And.intro ?_ ?_ | intro _)
  exact loop nr 0 (by omega)
theorem sp_X4_widthAbove {y : Int} (hk : SecS K s) (hp : SecP (H s) s) (hn : H s 3 = (nb : Int)) (hB : BandB (H (s + 1)) (H (s + 2)) (H (s + 3)) nb) (hq : q (wAt (H (s + 1)) (H (s + 2)) (H (s + 3)) nb y) H) : Ci mX4_widthAbove d [(2, (s : Int)), (0, y)] K H q := by
  obtain ⟨k0, k1, k2, k3, -⟩ := hk
  obtain ⟨p4, p5, p6, -⟩ := hp
  refine eX4_widthAbove fun _ _ => bX4_widthAbove_0 ?_
  have loop : ∀ (n i : Nat), i + n = nb → FX4_widthAbove_4 d K H q (s : Int) y (wAt (H (s + 1)) (H (s + 2)) (H (s + 3)) i y) (i : Int) := by
    intro n
    induction n with
    | zero =>
      intro i hi
      have e : i = nb := by omega
      subst e
      refine bX4_widthAbove_4 ?_
      simp only [Int.toNat_natCast, Option.some.injEq, Prod.mk.injEq, true_and, and_true, exists_eq_left', forall_eq, hn]
      exact ⟨by omega, k0, fun _ => hq, fun h => absurd h (by omega)⟩
    | succ n ih =>
      intro i hi
      have hb1 := wAt_bd hB y i (by omega)
      have hb8 := hB.1
      have w := hB.2 i (by omega)
      have this := ih (i + 1) (by omega)
      have e1 : wAt (H (s + 1)) (H (s + 2)) (H (s + 3)) (i + 1) y = wAt (H (s + 1)) (H (s + 2)) (H (s + 3)) i y + (if H (s + 2) i ≤ y ∧ y < H (s + 3) i then H (s + 1) i else 0) := rfl
      rw [e1] at this
      refine bX4_widthAbove_4 ?_
      simp only [Int.toNat_natCast, Option.some.injEq, Prod.mk.injEq, true_and, and_true, exists_eq_left', forall_eq, hn, p4, p5, p6, k0, k1, k2, k3]
      refine ⟨by omega, fun h => absurd (by omega) h, fun _ => ⟨by omega, by omega, by omega, fun h1 => ?_, fun h1 => ⟨by omega, by omega, fun h2 => ?_, fun h2 => ?_⟩⟩⟩
      · rw [if_neg (by omega), Int.add_zero] at this
        exact ⟨⟨by omega, by omega⟩, this⟩
      · rw [if_neg (by omega), Int.add_zero] at this
        exact ⟨⟨by omega, by omega⟩, this⟩
      · rw [if_pos (by omega)] at this
        (repeat' first | omega | exact this | refine And.intro ?_ ?_ | intro _)
  exact loop nb 0 (by omega)
theorem sp_X4_isEdge {y : Int} (hk : SecS K s) (hp : SecP (H s) s) (hn : H s 3 = (nb : Int)) (hr : H s 7 = (nr : Int)) (h8 : nb ≤ 8) (h6 : nr ≤ 6) (hq : q (bI (isE (H (s + 2)) (H (s + 3)) nb (H (s + 4)) nr y)) H) : Ci mX4_isEdge d [(2, (s : Int)), (0, y)] K H q := by
  obtain ⟨k0, k1, k2, k3, k4, -⟩ := hk
  obtain ⟨p4, p5, p6, p8, -⟩ := hp
  refine eX4_isEdge fun _ _ => ?_
  generalize hR : isE (H (s + 2)) (H (s + 3)) nb (H (s + 4)) nr y = R at hq
  have lp2 : ∀ (n i : Nat) (c : Bool), i + n = nr → R = (c || anyF (fun r => decide (H (s + 4) r = y)) i n) → FX4_isEdge_64 d K H q (s : Int) y (bI c) (i : Int) := by
    intro n
    induction n with
    | zero =>
      intro i c hi hc
      simp only [anyF, Bool.or_false] at hc
      subst hc
      refine bX4_isEdge_64 ?_
      simp only [Int.toNat_natCast, Option.some.injEq, Prod.mk.injEq, true_and, and_true, exists_eq_left', forall_eq, hr]
      exact ⟨by omega, k0, fun _ => ⟨by cases R; exact Or.inl rfl; exact Or.inr rfl, hq⟩, fun h => absurd h (by omega)⟩
    | succ n ih =>
      intro i c hi hc
      refine bX4_isEdge_64 ?_
      simp only [Int.toNat_natCast, Option.some.injEq, Prod.mk.injEq, true_and, and_true, exists_eq_left', forall_eq, hr, p8, k0, k4]
      refine ⟨by omega, fun h => absurd (by omega) h, fun _ => ?_⟩
      cases c with
      | true =>
        simp only [Bool.true_or] at hc
        subst hc
        exact ⟨fun _ => ⟨Or.inr rfl, hq⟩, fun h => absurd h (by decide)⟩
      | false =>
        refine ⟨fun h => absurd rfl h, fun _ => ⟨by omega, by omega, by omega, fun h => ⟨⟨by omega, by omega⟩, ih (i + 1) false (by omega) ?_⟩, fun h => ⟨⟨by omega, by omega⟩, ih (i + 1) true (by omega) ?_⟩⟩⟩
        · rw [hc]; simp [anyF, h]
        · rw [hc]; simp [anyF, h]
  have lp1 : ∀ (n i : Nat) (c : Bool), i + n = nb → R = (c || anyF (fun b => decide (H (s + 2) b = y) || decide (H (s + 3) b = y)) i n || anyF (fun r => decide (H (s + 4) r = y)) 0 nr) → FX4_isEdge_18 d K H q (s : Int) y (bI c) (i : Int) := by
    intro n
    induction n with
    | zero =>
      intro i c hi hc
      simp only [anyF, Bool.or_false] at hc
      refine bX4_isEdge_18 ?_
      simp only [Int.toNat_natCast, Option.some.injEq, Prod.mk.injEq, true_and, and_true, exists_eq_left', forall_eq, hn]
      exact ⟨by omega, k0, fun _ => lp2 nr 0 c (by omega) hc, fun h => absurd h (by omega)⟩
    | succ n ih =>
      intro i c hi hc
      refine bX4_isEdge_18 ?_
      simp only [Int.toNat_natCast, Option.some.injEq, Prod.mk.injEq, true_and, and_true, exists_eq_left', forall_eq, hn, p5, p6, k0, k2, k3]
      refine ⟨by omega, fun h => absurd (by omega) h, fun _ => ?_⟩
      cases c with
      | true =>
        refine ⟨fun _ => lp2 nr 0 true (by omega) (by rw [hc]; simp), fun h => absurd h (by decide)⟩
      | false =>
        refine ⟨fun h => absurd rfl h, fun _ => ⟨by omega, by omega, by omega, fun h => ⟨⟨by omega, by omega⟩, ih (i + 1) true (by omega) ?_⟩, fun h => ⟨by omega, by omega, fun h2 => ⟨⟨by omega, by omega⟩, ih (i + 1) false (by omega) ?_⟩, fun h2 => ⟨⟨by omega, by omega⟩, ih (i + 1) true (by omega) ?_⟩⟩⟩⟩
        · rw [hc]; simp [anyF, h]
        · rw [hc]; simp [anyF, h, h2]
        · rw [hc]; simp [anyF, h2]
  refine bX4_isEdge_0 ⟨fun h => lp1 nb 0 true (by omega) (by rw [← hR]; simp [isE, h]), fun h => ⟨fun h2 => lp1 nb 0 false (by omega) (by rw [← hR]; simp [isE, h, h2]), fun h2 => lp1 nb 0 true (by omega) (by rw [← hR]; simp [isE, h2])⟩⟩
end SecRead
theorem sp_X4_placeRods {d : Nat} {K : Shp} {H : Mem} {s nr : Nat} {q : Mem → Prop} {y v : Int} (hk : SecS K s) (hp : SecP (H s) s) (hr : H s 7 = (nr : Int)) (h6 : nr ≤ 6) (hq : ∀ H', (∀ x, x ≠ s + 8 → H' x = H x) → (∀ r, r < nr → H' (s + 8) r = if H (s + 4) r = y then v else H (s + 8) r) → q H') : Cv mX4_placeRods d [(2, (s : Int)), (0, y), (0, v)] K H q := by
  obtain ⟨k0, k1, k2, k3, k4, k5, k6, k7, k8, -⟩ := hk
  obtain ⟨p4, p5, p6, p8, p9, p11, p12, p13, -⟩ := hp
  refine eX4_placeRods fun _ _ _ => bX4_placeRods_0 ?_
  have loop : ∀ (n i : Nat), i + n = nr → ∀ G : Mem, (∀ x, x ≠ s + 8 → G x = H x) → (∀ r, r < i → G (s + 8) r = if H (s + 4) r = y then v else H (s + 8) r) → (∀ r, i ≤ r → G (s + 8) r = H (s + 8) r) → FX4_placeRods_2 d K G q (s : Int) y v (i : Int) := by
    intro n
    induction n with
    | zero =>
      intro i hi G h1 h2 h3
      have e : i = nr := by omega
      subst e
      have es := h1 s (by omega)
      refine bX4_placeRods_2 ?_
      simp only [Int.toNat_natCast, Option.some.injEq, Prod.mk.injEq, true_and, and_true, exists_eq_left', forall_eq, es, hr]
      exact ⟨by omega, k0, fun _ => hq G h1 h2, fun h => absurd h (by omega)⟩
    | succ n ih =>
      intro i hi G h1 h2 h3
      have es := h1 s (by omega)
      have e4 := h1 (s + 4) (by omega)
      refine bX4_placeRods_2 ?_
      simp only [Int.toNat_natCast, Option.some.injEq, Prod.mk.injEq, true_and, and_true, exists_eq_left', forall_eq, es, e4, hr, p8, p13, k0, k4, k8]
      refine ⟨by omega, fun h => absurd (by omega) h, fun _ => ⟨by omega, by omega, by omega, fun h => ⟨⟨by omega, by omega⟩, ih (i + 1) (by omega) G h1 ?_ (fun r hr => h3 r (by omega))⟩, fun h => ⟨by omega, by omega, ⟨by omega, by omega⟩, ih (i + 1) (by omega) _ ?_ ?_ ?_⟩⟩⟩
      · intro r hr
        by_cases e : r = i
        · subst e; rw [if_neg h]; exact h3 r (by omega)
        · exact h2 r (by omega)
      · intro x hx
        rw [upA_ne hx]; exact h1 x hx
      · intro r hr
        rw [upA_same]
        by_cases e : r = i
        · subst e; rw [up1_same, if_pos h]
        · rw [up1_ne e]; exact h2 r (by omega)
      · intro r hr
        rw [upA_same, up1_ne (by omega)]; exact h3 r (by omega)
  exact loop nr 0 (by omega) H (fun _ _ => rfl) (fun r hr => absurd hr (by omega)) (fun _ _ => rfl)
