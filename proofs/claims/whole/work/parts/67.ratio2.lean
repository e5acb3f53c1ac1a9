/-! RodBeam$Ratio: divide, putSum -/
theorem gcd_mod_int {s t : Int} (hs : 0 < s) (ht : 0 ≤ t) : Int.gcd s (t % s) = Nat.gcd s.natAbs t.natAbs := by
  obtain ⟨a, rfl⟩ := Int.eq_ofNat_of_zero_le (show 0 ≤ s by omega)
  obtain ⟨b, rfl⟩ := Int.eq_ofNat_of_zero_le ht
  rw [← Int.natCast_emod]
  show Nat.gcd a (b % a) = Nat.gcd a b
  rw [Nat.gcd_comm a (b % a)]
  exact (Nat.gcd_rec a b).symm
theorem RatK.one {K : Shp} {H G : Mem} {r n b : Nat} {f : Nat → Int} (h : RatK K H r) (e : G = upA H b f) (hb : K[b]? = some (21, n)) : RatK K G r := by rw [e]; exact h.keep hb
theorem dig_lt {f : Nat → Int} {x y : Int} (h : Dig f x) (e : x = y) : Dig f y := e ▸ h
theorem gcd_parts {A1 B1 s a b : Nat} (hs : Nat.gcd A1 B1 = s) (h0 : 0 < s) (ea : A1 = s * a) (eb : B1 = s * b) : Nat.gcd a b = 1 := by
  have h : Nat.gcd A1 B1 = s * Nat.gcd a b := by rw [ea, eb, Nat.gcd_mul_left]
  have h3 : s * 1 = s * Nat.gcd a b := by omega
  exact (Nat.eq_of_mul_eq_mul_left h0 h3).symm
theorem pn {r i j : Nat} (h : i ≠ j) : r + i ≠ r + j := by omega
theorem po {z r i : Nat} (h : z < r ∨ r + 10 < z) (hi : i ≤ 10) : z ≠ r + i := by omega
section R2
variable {d : Nat} {K : Shp} {H : Mem} {r : Nat} {q : Mem → Prop}
theorem ring_div {X y c G : Int} : X * (y * (c * G)) = c * X * (G * y) := by grind
set_option maxHeartbeats 1000000 in
theorem sp_X3_divide {x y g : Int} (hr : RatK K H r) (hx : Dig (H (r + 2)) x) (hy : Dig (H (r + 4)) y) (hred : Red x y) (hg : 0 < g) (hg2 : g ≤ 9000000000) (hyb : y ≤ 1000000000000000000000000000000)
    (hq : ∀ H' x' y', RatK K H' r → Same (RatC r) H H' → Dig (H' (r + 2)) x' → Dig (H' (r + 4)) y' → Red x' y' → x' * (y * g) = x * y' → x' ≤ x → y' ≤ y * g → q H') : Cv mX3_divide (d + 2) [(2, (r : Int)), (1, g)] K H q := by
  obtain ⟨h1, ⟨a1, a2, a3, a4, a5⟩, w1, w2, w3, w4, w5⟩ := id hr
  have x0 := hx.nonneg
  have y0 := hy.nonneg
  refine eX3_divide fun _ _ => bX3_divide_0 ?_
  simp only [Int.toNat_natCast, Option.some.injEq, Prod.mk.injEq, true_and, and_true, exists_eq_left', h1, a1, w1.1]
  have hm0 := Int.emod_nonneg x (show g ≠ 0 by omega)
  have hm1 := Int.emod_lt_of_pos x hg
  refine ⟨by omega, by omega, Cl.to (sp_X10_restBy w1 hx hg hg2) (Cl.to (sp_gcd (by omega) (by omega) (by omega) (by omega)) ?_)⟩
  have hc0 : 0 < Int.gcd g (x % g) := Int.gcd_pos_of_ne_zero_left _ (by omega)
  have hc1 := gcd_mod_int hg x0
  generalize Int.gcd g (x % g) = c at *
  have hdg : c ∣ g.natAbs := by rw [hc1]; exact Nat.gcd_dvd_left _ _
  have hdx : c ∣ x.natAbs := by rw [hc1]; exact Nat.gcd_dvd_right _ _
  have hcg : c ≤ g.natAbs := Nat.le_of_dvd (by omega) hdg
  rw [show max (1 : Int) (c : Int) = (c : Int) by omega]
  simp only [Int.toNat_natCast, Option.some.injEq, Prod.mk.injEq, true_and, and_true, exists_eq_left', a1, w1.1]
  refine ⟨by omega, (sp_X10_divide w1 hx (g := (c : Int)) (by omega) (by omega)).mono ?_⟩
  rintro G1 ⟨f1, e1, hf1⟩
  obtain ⟨X', eX⟩ := hdx
  obtain ⟨G', eG⟩ := hdg
  have ex : x = (c : Int) * (X' : Int) := by rw [← Int.natCast_mul, ← eX]; omega
  have eg : g = (c : Int) * (G' : Int) := by rw [← Int.natCast_mul, ← eG]; omega
  have t1 : Int.tdiv g (c : Int) = (G' : Int) := by rw [eg]; exact Int.mul_tdiv_cancel_left _ (by omega)
  have t2 : x / (c : Int) = (X' : Int) := by rw [ex]; exact Int.mul_ediv_cancel_left _ (by omega)
  rw [t2] at hf1
  have hG0 : 0 < G' := by
    rcases Nat.eq_zero_or_pos G' with z | z
    · subst z; simp at eg; omega
    · exact z
  have hGg : G' ≤ g.natAbs := by rw [eG]; exact Nat.le_mul_of_pos_left _ hc0
  have hXx : X' ≤ x.natAbs := by rw [eX]; exact Nat.le_mul_of_pos_left _ hc0
  have k1 : RatK K G1 r := hr.one e1 w1.2.1
  have c1 : ∀ z, z ≠ r + 2 → G1 z = H z := fun z hz => by rw [e1, upA_ne hz]
  have v1 : G1 (r + 2) = f1 := by rw [e1]; exact upA_same _ _ _
  obtain ⟨-, ⟨-, -, b3, -, -⟩, -, -, u3, -, -⟩ := id k1
  rw [t1]
  simp only [Int.toNat_natCast, Option.some.injEq, Prod.mk.injEq, true_and, and_true, exists_eq_left', b3, u3.1]
  refine ⟨by omega, ⟨by omega, by omega⟩, by omega, (sp_X10_put u3 (v := (G' : Int)) (by omega) (by omega)).mono ?_⟩
  rintro G2 ⟨f2, e2, hf2⟩
  have k2 : RatK K G2 r := k1.one e2 u3.2.1
  have c2 : ∀ z, z ≠ r + 6 → G2 z = G1 z := fun z hz => by rw [e2, upA_ne hz]
  have v2 : G2 (r + 6) = f2 := by rw [e2]; exact upA_same _ _ _
  obtain ⟨-, ⟨-, b2, -, b4, -⟩, -, u2, -, u4, -⟩ := id k2
  simp only [Int.toNat_natCast, Option.some.injEq, Prod.mk.injEq, true_and, and_true, exists_eq_left', b4, b2, u4.1]
  have dy2 : Dig (G2 (r + 4)) y := by rw [c2 _ (by omega), c1 _ (by omega)]; exact hy
  refine ⟨by omega, (sp_X10_copy u4 u2 (v := y) dy2).mono ?_⟩
  rintro G3 ⟨f3, e3, hf3⟩
  have k3 : RatK K G3 r := k2.one e3 u4.2.1
  have c3 : ∀ z, z ≠ r + 8 → G3 z = G2 z := fun z hz => by rw [e3, upA_ne hz]
  have v3 : G3 (r + 8) = f3 := by rw [e3]; exact upA_same _ _ _
  obtain ⟨-, ⟨-, b2', b3', b4', -⟩, -, u2', u3', u4', -⟩ := id k3
  simp only [Int.toNat_natCast, Option.some.injEq, Prod.mk.injEq, true_and, and_true, exists_eq_left', b2', b3', b4', u2'.1]
  have d6 : Dig (G3 (r + 6)) (G' : Int) := by rw [c3 _ (by omega), v2]; exact hf2
  have d8 : Dig (G3 (r + 8)) y := by rw [v3]; exact hf3
  have hle : (G' : Int) * y ≤ y * g := by
    rw [Int.mul_comm y g]
    exact Int.mul_le_mul_of_nonneg_right (by omega) y0
  have hbig : y * g ≤ 1000000000000000000000000000000 * 9000000000 := Int.mul_le_mul hyb hg2 (by omega) (by decide)
  refine ⟨by omega, (sp_X10_product u2' u3' u4' (by omega) (by omega) d6 d8 (by omega)).mono ?_⟩
  rintro G4 ⟨f4, e4, hf4⟩
  have k4 : RatK K G4 r := k3.one e4 u2'.2.1
  have c4 : ∀ z, z ≠ r + 4 → G4 z = G3 z := fun z hz => by rw [e4, upA_ne hz]
  have v4 : G4 (r + 4) = f4 := by rw [e4]; exact upA_same _ _ _
  refine hq G4 (X' : Int) ((G' : Int) * y) k4 ?_ ?_ (by rw [v4]; exact hf4) ⟨Int.mul_pos (by omega) hred.1, ?_⟩ ?_ (by omega) hle
  · intro z hz
    have hz' : ¬ (r < z ∧ z ≤ r + 10) := hz
    rw [c4 z (by omega), c3 z (by omega), c2 z (by omega), c1 z (by omega)]
  · rw [c4 _ (by omega), c3 _ (by omega), c2 _ (by omega), v1]; exact hf1
  · have p1 : Nat.gcd X' G' = 1 := by
      have h : Nat.gcd g.natAbs x.natAbs = c * Nat.gcd G' X' := by rw [eG, eX, Nat.gcd_mul_left]
      rw [← hc1] at h
      have h2 : c * 1 = c * Nat.gcd G' X' := by omega
      rw [Nat.gcd_comm]
      exact (Nat.eq_of_mul_eq_mul_left hc0 h2).symm
    have p2 : Nat.gcd X' y.natAbs = 1 := by
      have h : Nat.gcd (c * X') y.natAbs = 1 := by rw [← eX]; exact hred.2
      exact Nat.Coprime.coprime_mul_left h
    show Nat.gcd (X' : Int).natAbs ((G' : Int) * y).natAbs = 1
    rw [Int.natAbs_mul, Int.natAbs_natCast, Int.natAbs_natCast]
    exact cop_mul p1 p2
  · rw [eg, ex]; exact ring_div
theorem ring_sum {A B a b s c s' x t : Int} (ht : t = A * b + B * a) (hx : t = c * x) (hs : s = c * s') : x * (a * s * (b * s)) = (A * (b * s) + B * (a * s)) * (a * (b * s')) := by
  have e : A * (b * s) + B * (a * s) = s * (A * b + B * a) := by grind
  rw [e, ← ht, hx, hs]
  grind
theorem mul_54 {a y : Int} (h0 : 0 ≤ a) (h1 : a ≤ 9000000000000000000) (h2 : 0 ≤ y) (h3 : y ≤ 9000000000) : 0 ≤ a * y ∧ a * y ≤ 81000000000000000000000000000 := by
  have := Int.mul_le_mul h1 h3 h2 (by decide)
  have := Int.mul_nonneg h0 h2
  omega
theorem tdiv_parts {x : Int} {b s c s' : Nat} (h : x = (b : Int) * (s : Int)) (es : s = c * s') (hc : 0 < c) : Int.tdiv x (c : Int) = ((b * s' : Nat) : Int) ∧ ((b * s' : Nat) : Int) ≤ x := by
  have e : x = (c : Int) * ((b * s' : Nat) : Int) := by
    rw [h, es, Int.natCast_mul, Int.natCast_mul]
    exact Int.mul_left_comm _ _ _
  refine ⟨by rw [e]; exact Int.mul_tdiv_cancel_left _ (by omega), ?_⟩
  have : 1 * ((b * s' : Nat) : Int) ≤ (c : Int) * ((b * s' : Nat) : Int) := Int.mul_le_mul_of_nonneg_right (by omega) (by omega)
  rw [e]; omega
theorem frame3 {G3 G2 G1 H : Mem} (c3 : ∀ z, z ≠ r + 2 → G3 z = G2 z) (c2 : ∀ z, z ≠ r + 8 → G2 z = G1 z) (c1 : ∀ z, z ≠ r + 6 → G1 z = H z) : ∀ z, z ≤ r ∨ r + 10 < z → G3 z = H z := fun z hz => by rw [c3 z (by omega), c2 z (by omega), c1 z (by omega)]
theorem frame4 {G7 G6 G5 G4 G3 H : Mem} (c7 : ∀ z, z ≠ r + 2 → G7 z = G6 z) (c6 : ∀ z, z ≠ r + 10 → G6 z = G5 z) (c5 : ∀ z, z ≠ r + 8 → G5 z = G4 z) (c4 : ∀ z, z ≠ r + 6 → G4 z = G3 z) (o3 : ∀ z, z ≤ r ∨ r + 10 < z → G3 z = H z) : ∀ z, z ≤ r ∨ r + 10 < z → G7 z = H z := fun z hz => by rw [c7 z (by omega), c6 z (by omega), c5 z (by omega), c4 z (by omega), o3 z hz]
theorem out_le {z r : Nat} (h : z < r ∨ r + 10 < z) : z ≤ r ∨ r + 10 < z := by omega
set_option maxHeartbeats 2000000 in
theorem psA {T : Mem → Prop} {p w : Nat} {s A B a b : Int} (hr : RatK K H r) (dp : p < r ∨ r + 10 < p) (dw : w < r ∨ r + 10 < w) (s0 : s ≠ 0) (hA : H p 0 = A) (hB : H w 0 = B) (ta : Int.tdiv (H p 1) s = a) (tb : Int.tdiv (H w 1) s = b) (A0 : 0 ≤ A) (A9 : A ≤ 9000000000000000000) (B0 : 0 ≤ B) (B9 : B ≤ 9000000000000000000) (a0 : 0 ≤ a) (a9 : a ≤ 9000000000) (b0 : 0 ≤ b) (b9 : b ≤ 9000000000)
    (hT : ∀ G, RatK K G r → (∀ z, z ≤ r ∨ r + 10 < z → G z = H z) → Dig (G (r + 2)) (A * b + B * a) → T G) : (0 ≤ (r : Int)) ∧ (K[r]? = some (3, 5)) ∧ (0 ≤ (H r 2)) ∧ (K[(H r 2).toNat]? = some (10, 1)) ∧ Cv mX10_put (d + 2) [(2, (H r 2)), (1, (H p 0))] K H (fun H11 => ((s : Int) ≠ 0) ∧ (inL (Int.tdiv (H11 w 1) s)) ∧ (0 ≤ (H11 r 3)) ∧ (K[(H11 r 3).toNat]? = some (10, 1)) ∧ Cv mX10_put (d + 2) [(2, (H11 r 3)), (1, (Int.tdiv (H11 w 1) s))] K H11 (fun H17 => (0 ≤ (H17 r 0)) ∧ (K[(H17 r 0).toNat]? = some (10, 1)) ∧ Cv mX10_product (d + 2) [(2, (H17 r 0)), (2, (H17 r 2)), (2, (H17 r 3))] K H17 (fun H21 => (0 ≤ (H21 r 2)) ∧ (K[(H21 r 2).toNat]? = some (10, 1)) ∧ Cv mX10_put (d + 2) [(2, (H21 r 2)), (1, (H21 w 0))] K H21 (fun H25 => (inL (Int.tdiv (H25 p 1) s)) ∧ (0 ≤ (H25 r 3)) ∧ (K[(H25 r 3).toNat]? = some (10, 1)) ∧ Cv mX10_put (d + 2) [(2, (H25 r 3)), (1, (Int.tdiv (H25 p 1) s))] K H25 (fun H30 => (0 ≤ (H30 r 4)) ∧ (K[(H30 r 4).toNat]? = some (10, 1)) ∧ Cv mX10_product (d + 2) [(2, (H30 r 4)), (2, (H30 r 2)), (2, (H30 r 3))] K H30 (fun H34 => (0 ≤ (H34 r 0)) ∧ (K[(H34 r 0).toNat]? = some (10, 1)) ∧ Cv mX10_plus (d + 2) [(2, (H34 r 0)), (2, (H34 r 4))] K H34 (fun H38 => T H38))))))) := by
  obtain ⟨h1, ⟨q1, q2, q3, q4, q5⟩, w1, w2, w3, w4, w5⟩ := id hr
  simp only [Int.toNat_natCast, Option.some.injEq, Prod.mk.injEq, true_and, and_true, exists_eq_left', h1, q3, w3.1, hA]
  refine ⟨by omega, by omega, (sp_X10_put w3 (v := A) (by omega) (by omega)).mono ?_⟩
  rintro G1 ⟨f1, e1, hf1⟩
  have k1 : RatK K G1 r := hr.one e1 w3.2.1
  have c1 : ∀ z, z ≠ r + 6 → G1 z = H z := fun z hz => by rw [e1, upA_ne hz]
  have v1 : G1 (r + 6) = f1 := by rw [e1]; exact upA_same _ _ _
  clear e1
  obtain ⟨-, ⟨-, -, -, x4, -⟩, -, -, -, u4, -⟩ := id k1
  simp only [Int.toNat_natCast, Option.some.injEq, Prod.mk.injEq, true_and, and_true, exists_eq_left', c1 w (po dw (by decide)), tb, x4, u4.1]
  refine ⟨s0, ⟨by omega, by omega⟩, by omega, (sp_X10_put u4 (v := b) (by omega) (by omega)).mono ?_⟩
  rintro G2 ⟨f2, e2, hf2⟩
  have k2 : RatK K G2 r := k1.one e2 u4.2.1
  have c2 : ∀ z, z ≠ r + 8 → G2 z = G1 z := fun z hz => by rw [e2, upA_ne hz]
  have v2 : G2 (r + 8) = f2 := by rw [e2]; exact upA_same _ _ _
  clear e2
  obtain ⟨-, ⟨x1, -, x3, x4, -⟩, u1, -, u3, u4, -⟩ := id k2
  simp only [Int.toNat_natCast, Option.some.injEq, Prod.mk.injEq, true_and, and_true, exists_eq_left', x1, x3, x4, u1.1]
  have d26 : Dig (G2 (r + 6)) A := by rw [c2 _ (pn (by decide)), v1]; exact hf1
  have d28 : Dig (G2 (r + 8)) b := by rw [v2]; exact hf2
  have m1 := mul_54 A0 A9 b0 b9
  have m2 := mul_54 B0 B9 a0 a9
  refine ⟨by omega, (sp_X10_product u1 u3 u4 (pn (by decide)) (pn (by decide)) d26 d28 (by omega)).mono ?_⟩
  rintro G3 ⟨f3, e3, hf3⟩
  have k3 : RatK K G3 r := k2.one e3 u1.2.1
  have c3 : ∀ z, z ≠ r + 2 → G3 z = G2 z := fun z hz => by rw [e3, upA_ne hz]
  have v3 : G3 (r + 2) = f3 := by rw [e3]; exact upA_same _ _ _
  clear e3
  have o3 := frame3 c3 c2 c1
  clear c1 c2 c3 v1 v2 d26 d28 hf1 hf2
  obtain ⟨-, ⟨-, -, x3, -, -⟩, -, -, u3, -, -⟩ := id k3
  simp only [Int.toNat_natCast, Option.some.injEq, Prod.mk.injEq, true_and, and_true, exists_eq_left', o3 w (out_le dw), hB, x3, u3.1]
  refine ⟨by omega, (sp_X10_put u3 (v := B) (by omega) (by omega)).mono ?_⟩
  rintro G4 ⟨f4, e4, hf4⟩
  have k4 : RatK K G4 r := k3.one e4 u3.2.1
  have c4 : ∀ z, z ≠ r + 6 → G4 z = G3 z := fun z hz => by rw [e4, upA_ne hz]
  have v4 : G4 (r + 6) = f4 := by rw [e4]; exact upA_same _ _ _
  clear e4
  obtain ⟨-, ⟨-, -, -, x4, -⟩, -, -, -, u4, -⟩ := id k4
  simp only [Int.toNat_natCast, Option.some.injEq, Prod.mk.injEq, true_and, and_true, exists_eq_left', c4 p (po dp (by decide)), o3 p (out_le dp), ta, x4, u4.1]
  refine ⟨⟨by omega, by omega⟩, by omega, (sp_X10_put u4 (v := a) (by omega) (by omega)).mono ?_⟩
  rintro G5 ⟨f5, e5, hf5⟩
  have k5 : RatK K G5 r := k4.one e5 u4.2.1
  have c5 : ∀ z, z ≠ r + 8 → G5 z = G4 z := fun z hz => by rw [e5, upA_ne hz]
  have v5 : G5 (r + 8) = f5 := by rw [e5]; exact upA_same _ _ _
  clear e5
  obtain ⟨-, ⟨-, -, x3, x4, x5⟩, -, -, u3, u4, u5⟩ := id k5
  simp only [Int.toNat_natCast, Option.some.injEq, Prod.mk.injEq, true_and, and_true, exists_eq_left', x3, x4, x5, u5.1]
  have d56 : Dig (G5 (r + 6)) B := by rw [c5 _ (pn (by decide)), v4]; exact hf4
  have d58 : Dig (G5 (r + 8)) a := by rw [v5]; exact hf5
  refine ⟨by omega, (sp_X10_product u5 u3 u4 (pn (by decide)) (pn (by decide)) d56 d58 (by omega)).mono ?_⟩
  rintro G6 ⟨f6, e6, hf6⟩
  have k6 : RatK K G6 r := k5.one e6 u5.2.1
  have c6 : ∀ z, z ≠ r + 10 → G6 z = G5 z := fun z hz => by rw [e6, upA_ne hz]
  have v6 : G6 (r + 10) = f6 := by rw [e6]; exact upA_same _ _ _
  clear e6
  obtain ⟨-, ⟨x1, -, -, -, x5⟩, u1, -, -, -, u5⟩ := id k6
  simp only [Int.toNat_natCast, Option.some.injEq, Prod.mk.injEq, true_and, and_true, exists_eq_left', x1, x5, u1.1]
  have d62 : Dig (G6 (r + 2)) (A * b) := by rw [c6 _ (pn (by decide)), c5 _ (pn (by decide)), c4 _ (pn (by decide)), v3]; exact hf3
  have d6a : Dig (G6 (r + 10)) (B * a) := by rw [v6]; exact hf6
  refine ⟨by omega, (sp_X10_plus u1 u5 (pn (by decide)) d62 d6a (by omega)).mono ?_⟩
  rintro G7 ⟨f7, e7, hf7⟩
  have c7 : ∀ z, z ≠ r + 2 → G7 z = G6 z := fun z hz => by rw [e7, upA_ne hz]
  exact hT G7 (k6.one e7 u1.2.1) (frame4 c7 c6 c5 c4 o3) (by rw [e7, upA_same]; exact hf7)
set_option maxHeartbeats 1000000 in
theorem psB {p w : Nat} {a : Int} {s t b : Nat} (hr : RatK K H r) (dp : p < r ∨ r + 10 < p) (dw : w < r ∨ r + 10 < w) (s0 : 0 < s) (s9 : s ≤ 9000000000) (ht : Dig (H (r + 2)) (t : Int)) (ta : Int.tdiv (H p 1) (s : Int) = a) (a0 : 0 ≤ a) (a9 : a ≤ 9000000000) (hw1 : H w 1 = (b : Int) * (s : Int)) (hw9 : H w 1 ≤ 9000000000)
    (hq : ∀ H' c s' x', c = Nat.gcd s t → 0 < c → s = c * s' → t = c * x' → RatK K H' r → (∀ z, z ≤ r ∨ r + 10 < z → H' z = H z) → Dig (H' (r + 2)) (x' : Int) → Dig (H' (r + 4)) (a * ((b * s' : Nat) : Int)) → q H') : (0 ≤ (H r 0)) ∧ (K[(H r 0).toNat]? = some (10, 1)) ∧ Cl mX10_restBy (d + 2) [(2, (H r 0)), (1, (s : Int))] K H (fun x43 H42 => Cl mX11_commonDivisor (d + 2) [(1, (s : Int)), (1, x43)] K H42 (fun x45 H44 => (0 ≤ (H44 r 0)) ∧ (K[(H44 r 0).toNat]? = some (10, 1)) ∧ Cv mX10_divide (d + 2) [(2, (H44 r 0)), (1, (max 1 x45))] K H44 (fun H48 => (inL (Int.tdiv (H48 p 1) (s : Int))) ∧ (0 ≤ (H48 r 2)) ∧ (K[(H48 r 2).toNat]? = some (10, 1)) ∧ Cv mX10_put (d + 2) [(2, (H48 r 2)), (1, (Int.tdiv (H48 p 1) (s : Int)))] K H48 (fun H53 => (((max 1 x45) : Int) ≠ 0) ∧ (inL (Int.tdiv (H53 w 1) (max 1 x45))) ∧ (0 ≤ (H53 r 3)) ∧ (K[(H53 r 3).toNat]? = some (10, 1)) ∧ Cv mX10_put (d + 2) [(2, (H53 r 3)), (1, (Int.tdiv (H53 w 1) (max 1 x45)))] K H53 (fun H59 => (0 ≤ (H59 r 1)) ∧ (K[(H59 r 1).toNat]? = some (10, 1)) ∧ Cv mX10_product (d + 2) [(2, (H59 r 1)), (2, (H59 r 2)), (2, (H59 r 3))] K H59 (fun H63 => q H63)))))) := by
  obtain ⟨h1, ⟨x1, -, -, -, -⟩, u1, -, -, -, -⟩ := id hr
  have hm0 := Int.emod_nonneg (t : Int) (show (s : Int) ≠ 0 by omega)
  have hm1 := Int.emod_lt_of_pos (t : Int) (show 0 < (s : Int) by omega)
  simp only [Int.toNat_natCast, Option.some.injEq, Prod.mk.injEq, true_and, and_true, exists_eq_left', x1, u1.1]
  refine ⟨by omega, Cl.to (sp_X10_restBy u1 ht (by omega) (by omega)) (Cl.to (sp_gcd (by omega) (by omega) (by omega) (by omega)) ?_)⟩
  have hc0 : 0 < Int.gcd (s : Int) ((t : Int) % (s : Int)) := Int.gcd_pos_of_ne_zero_left _ (by omega)
  have hc1 := gcd_mod_int (s := (s : Int)) (t := (t : Int)) (by omega) (by omega)
  rw [Int.natAbs_natCast, Int.natAbs_natCast] at hc1
  clear hm0 hm1
  obtain ⟨c, hc⟩ : ∃ c : Nat, c = Int.gcd (s : Int) ((t : Int) % (s : Int)) := ⟨_, rfl⟩
  rw [← hc] at hc0 hc1
  rw [← hc]
  clear hc
  have hcs : c ∣ s := by rw [hc1]; exact Nat.gcd_dvd_left _ _
  have hct : c ∣ t := by rw [hc1]; exact Nat.gcd_dvd_right _ _
  have lc : c ≤ s := Nat.le_of_dvd s0 hcs
  obtain ⟨s', es⟩ := hcs
  obtain ⟨x', ex⟩ := hct
  have e8 : (t : Int) / (c : Int) = (x' : Int) := by rw [ex, Int.natCast_mul]; exact Int.mul_ediv_cancel_left _ (by omega)
  have tB := tdiv_parts hw1 es hc0
  rw [show max (1 : Int) (c : Int) = (c : Int) by omega]
  simp only [Int.toNat_natCast, Option.some.injEq, Prod.mk.injEq, true_and, and_true, exists_eq_left', x1, u1.1]
  refine ⟨by omega, (sp_X10_divide u1 ht (g := (c : Int)) (by omega) (by omega)).mono ?_⟩
  rintro G8 ⟨f8, e8', hf8⟩
  rw [e8] at hf8
  have k8 : RatK K G8 r := hr.one e8' u1.2.1
  have c8 : ∀ z, z ≠ r + 2 → G8 z = H z := fun z hz => by rw [e8', upA_ne hz]
  have v8 : G8 (r + 2) = f8 := by rw [e8']; exact upA_same _ _ _
  clear e8'
  obtain ⟨-, ⟨-, -, x3, -, -⟩, -, -, u3, -, -⟩ := id k8
  simp only [Int.toNat_natCast, Option.some.injEq, Prod.mk.injEq, true_and, and_true, exists_eq_left', c8 p (po dp (by decide)), ta, x3, u3.1]
  refine ⟨⟨by omega, by omega⟩, by omega, (sp_X10_put u3 (v := a) (by omega) (by omega)).mono ?_⟩
  rintro G9 ⟨f9, e9, hf9⟩
  have k9 : RatK K G9 r := k8.one e9 u3.2.1
  have c9 : ∀ z, z ≠ r + 6 → G9 z = G8 z := fun z hz => by rw [e9, upA_ne hz]
  have v9 : G9 (r + 6) = f9 := by rw [e9]; exact upA_same _ _ _
  clear e9
  obtain ⟨-, ⟨-, -, -, x4, -⟩, -, -, -, u4, -⟩ := id k9
  simp only [Int.toNat_natCast, Option.some.injEq, Prod.mk.injEq, true_and, and_true, exists_eq_left', c9 w (po dw (by decide)), c8 w (po dw (by decide)), tB.1, x4, u4.1]
  refine ⟨by omega, ⟨by omega, by omega⟩, by omega, (sp_X10_put u4 (v := ((b * s' : Nat) : Int)) (by omega) (by omega)).mono ?_⟩
  rintro G10 ⟨f10, e10, hf10⟩
  have k10 : RatK K G10 r := k9.one e10 u4.2.1
  have c10 : ∀ z, z ≠ r + 8 → G10 z = G9 z := fun z hz => by rw [e10, upA_ne hz]
  have v10 : G10 (r + 8) = f10 := by rw [e10]; exact upA_same _ _ _
  clear e10
  obtain ⟨-, ⟨-, x2, x3, x4, -⟩, -, u2, u3, u4, -⟩ := id k10
  simp only [Int.toNat_natCast, Option.some.injEq, Prod.mk.injEq, true_and, and_true, exists_eq_left', x2, x3, x4, u2.1]
  have da6 : Dig (G10 (r + 6)) a := by rw [c10 _ (pn (by decide)), v9]; exact hf9
  have da8 : Dig (G10 (r + 8)) ((b * s' : Nat) : Int) := by rw [v10]; exact hf10
  have m1 := mul_54 (a := a) (y := ((b * s' : Nat) : Int)) a0 (by omega) (by omega) (by omega)
  refine ⟨by omega, (sp_X10_product u2 u3 u4 (pn (by decide)) (pn (by decide)) da6 da8 (by omega)).mono ?_⟩
  rintro G11 ⟨f11, e11, hf11⟩
  have c11 : ∀ z, z ≠ r + 4 → G11 z = G10 z := fun z hz => by rw [e11, upA_ne hz]
  refine hq G11 c s' x' hc1 hc0 es ex (k10.one e11 u2.2.1) (fun z hz => ?_) ?_ (by rw [e11, upA_same]; exact hf11)
  · rw [c11 z (by omega), c10 z (by omega), c9 z (by omega), c8 z (by omega)]
  · rw [c11 _ (pn (by decide)), c10 _ (pn (by decide)), c9 _ (pn (by decide)), v8]; exact hf8
theorem psum_red {A B a b s c s' x' t A1 B1 : Nat} (g1 : Nat.gcd A A1 = 1) (g2 : Nat.gcd B B1 = 1) (ea : A1 = s * a) (eb : B1 = s * b) (hab : Nat.gcd a b = 1) (et : t = A * b + B * a) (hc1 : c = Nat.gcd s t) (hc0 : 0 < c) (es : s = c * s') (ex : t = c * x') : Nat.gcd x' (a * (b * s')) = 1 := by
  have r1 : Nat.gcd A (a * s) = 1 := by rw [Nat.mul_comm a s, ← ea]; exact g1
  have r2 : Nat.gcd B (b * s) = 1 := by rw [Nat.mul_comm b s, ← eb]; exact g2
  have := sum_red r1 r2 hab et hc1 hc0
  rw [show t / c = x' by rw [ex, Nat.mul_div_cancel_left _ hc0], show s / c = s' by rw [es, Nat.mul_div_cancel_left _ hc0]] at this
  exact this
theorem fac_pos {x y z : Nat} (h : 0 < x) (e : x = y * z) : 0 < z := by
  rcases Nat.eq_zero_or_pos z with g | g
  · subst g; simp at e; omega
  · exact g
set_option maxHeartbeats 1000000 in
theorem sp_X3_putSum {p w : Nat} (hr : RatK K H r) (kp : K[p]? = some (5, 2)) (kw : K[w]? = some (5, 2)) (dp : p < r ∨ r + 10 < p) (dw : w < r ∨ r + 10 < w) (rp : Red (H p 0) (H p 1)) (rw' : Red (H w 0) (H w 1)) (a0 : 0 ≤ H p 0) (b0 : 0 ≤ H w 0) (a1 : H p 1 ≤ 9000000000) (b1 : H w 1 ≤ 9000000000) (a2 : H p 0 ≤ 9000000000000000000) (b2 : H w 0 ≤ 9000000000000000000)
    (hq : ∀ H' x' y', RatK K H' r → Same (RatC r) H H' → Dig (H' (r + 2)) x' → Dig (H' (r + 4)) y' → Red x' y' → x' * (H p 1 * H w 1) = (H p 0 * H w 1 + H w 0 * H p 1) * y' → x' ≤ H p 0 * H w 1 + H w 0 * H p 1 → y' ≤ H p 1 * H w 1 → q H') : Cv mX3_putSum (d + 3) [(2, (r : Int)), (2, (p : Int)), (2, (w : Int))] K H q := by
  have ap := rp.1
  have bp := rw'.1
  obtain ⟨A, eA⟩ := Int.eq_ofNat_of_zero_le a0
  obtain ⟨B, eB⟩ := Int.eq_ofNat_of_zero_le b0
  obtain ⟨A1, eA1⟩ := Int.eq_ofNat_of_zero_le (show 0 ≤ H p 1 by omega)
  obtain ⟨B1, eB1⟩ := Int.eq_ofNat_of_zero_le (show 0 ≤ H w 1 by omega)
  refine eX3_putSum fun _ => bX3_putSum_0 ?_
  simp only [Int.toNat_natCast]
  refine ⟨by omega, kp, by omega, kw, Cl.to (sp_gcd (by omega) (by omega) (by omega) (by omega)) ?_⟩
  obtain ⟨s, hs⟩ : ∃ s, Nat.gcd A1 B1 = s := ⟨_, rfl⟩
  have hsd : Int.gcd (H p 1) (H w 1) = s := by rw [eA1, eB1, ← hs]; rfl
  rw [hsd]
  have hs0 : 0 < s := by rw [← hs]; exact Nat.gcd_pos_of_pos_left _ (by omega)
  obtain ⟨a, ea⟩ : s ∣ A1 := by rw [← hs]; exact Nat.gcd_dvd_left A1 B1
  obtain ⟨b, eb⟩ : s ∣ B1 := by rw [← hs]; exact Nat.gcd_dvd_right A1 B1
  have hab : Nat.gcd a b = 1 := gcd_parts hs hs0 ea eb
  have ta : Int.tdiv (H p 1) (s : Int) = (a : Int) := by rw [eA1, ea, Int.natCast_mul]; exact Int.mul_tdiv_cancel_left _ (by omega)
  have tb : Int.tdiv (H w 1) (s : Int) = (b : Int) := by rw [eB1, eb, Int.natCast_mul]; exact Int.mul_tdiv_cancel_left _ (by omega)
  have la : a ≤ A1 := by rw [ea]; exact Nat.le_mul_of_pos_left _ hs0
  have lb : b ≤ B1 := by rw [eb]; exact Nat.le_mul_of_pos_left _ hs0
  have ls : s ≤ B1 := Nat.le_of_dvd (by omega) ⟨b, eb⟩
  rw [show max (1 : Int) (s : Int) = (s : Int) by omega]
  have hw1 : H w 1 = (b : Int) * (s : Int) := by rw [eB1, eb, Int.natCast_mul, Int.mul_comm]
  have hp1 : H p 1 = (a : Int) * (s : Int) := by rw [eA1, ea, Int.natCast_mul, Int.mul_comm]
  refine psA (p := p) (w := w) hr dp dw (by omega) eA eB ta tb (by omega) (by omega) (by omega) (by omega) (by omega) (by omega) (by omega) (by omega) ?_
  intro G k7 o7 d7
  obtain ⟨t, et⟩ : ∃ t : Nat, t = A * b + B * a := ⟨_, rfl⟩
  have eti : (A : Int) * b + (B : Int) * a = (t : Int) := by rw [et]; simp
  rw [eti] at d7
  have gp : G p = H p := o7 p (by omega)
  have gw : G w = H w := o7 w (by omega)
  refine psB (p := p) (w := w) (s := s) (t := t) (b := b) (a := (a : Int)) k7 dp dw hs0 (by omega) d7 (by rw [gp]; exact ta) (by omega) (by omega) (by rw [gw]; exact hw1) (by rw [gw]; exact b1) ?_
  intro G' c s' x' hc1 hc0 es ex k o dx dy
  have g1 : Nat.gcd A A1 = 1 := by have := rp.2; rw [eA, eA1] at this; exact this
  have g2 : Nat.gcd B B1 = 1 := by have := rw'.2; rw [eB, eB1] at this; exact this
  have red := psum_red g1 g2 ea eb hab et hc1 hc0 es ex
  have pa : 0 < a := fac_pos (show 0 < A1 by omega) ea
  have pb : 0 < b := fac_pos (show 0 < B1 by omega) eb
  have ps : 0 < s' := fac_pos hs0 es
  have pp := Nat.mul_pos pa (Nat.mul_pos pb ps)
  have lt := (tdiv_parts hw1 es hc0).2
  have nn : 0 ≤ ((b * s' : Nat) : Int) := Int.natCast_nonneg _
  refine hq G' (x' : Int) ((a : Int) * ((b * s' : Nat) : Int)) k (fun z hz => ?_) dx dy ⟨?_, ?_⟩ ?_ ?_ ?_
  · have hz' : ¬ (r < z ∧ z ≤ r + 10) := hz
    rw [o z (by omega), o7 z (by omega)]
  · rw [← Int.natCast_mul]; exact Int.natCast_pos.mpr pp
  · rw [← Int.natCast_mul]; exact red
  · have := ring_sum (A := (A : Int)) (B := (B : Int)) (a := (a : Int)) (b := (b : Int)) (s := (s : Int)) (c := (c : Int)) (s' := (s' : Int)) (x := (x' : Int)) (t := (t : Int)) eti.symm (by rw [ex, Int.natCast_mul]) (by rw [es, Int.natCast_mul])
    rw [eA, eB, hp1, hw1, Int.natCast_mul]
    exact this
  · have y1 : x' ≤ t := by rw [ex]; exact Nat.le_mul_of_pos_left _ hc0
    have y2 : (A : Int) * (b : Int) ≤ (A : Int) * (B1 : Int) := Int.mul_le_mul_of_nonneg_left (by omega) (by omega)
    have y3 : (B : Int) * (a : Int) ≤ (B : Int) * (A1 : Int) := Int.mul_le_mul_of_nonneg_left (by omega) (by omega)
    rw [eA, eB, eA1, eB1]
    omega
  · have y4 : (a : Int) ≤ H p 1 := by omega
    exact Int.mul_le_mul y4 lt nn (by omega)
end R2
