theorem gcd_mod_int {s t : Int} (hs : 0 < s) (ht : 0 ≤ t) : Int.gcd s (t % s) = Nat.gcd s.natAbs t.natAbs := by
  obtain ⟨a, rfl⟩ := Int.eq_ofNat_of_zero_le (show 0 ≤ s by omega)
  obtain ⟨b, rfl⟩ := Int.eq_ofNat_of_zero_le ht
  rw [← Int.natCast_emod]
  show Nat.gcd a (b % a) = Nat.gcd a b
  rw [Nat.gcd_comm a (b % a)]
  exact (Nat.gcd_rec a b).symm
set_option maxHeartbeats 20000000 in
theorem sp_X3_divide {d : Nat} {K : Shp} {H : Mem} {r : Nat} {x y g : Int} (hr : RatK K H r) (hx : Dig (H (r + 2)) x) (hy : Dig (H (r + 4)) y) (hred : Red x y) (hg : 0 < g) (hg2 : g ≤ 9000000000) (hb : y * g < 1000000000000000000000000000000000000000000000000000000) :
    Cv mX3_divide (d + 2) [(2, (r : Int)), (1, g)] K H (fun H' => RatK K H' r ∧ Same (RatC r) H H' ∧ ∃ x' y', Dig (H' (r + 2)) x' ∧ Dig (H' (r + 4)) y' ∧ Red x' y' ∧ x' * (y * g) = x * y' ∧ x' ≤ x ∧ y' ≤ y * g) := by
  have hr0 := hr
  obtain ⟨h1, ⟨a1, a2, a3, a4, a5⟩, w1, w2, w3, w4, w5⟩ := hr
  refine eX3_divide fun _ _ => ?_
  refine bX3_divide_0 ?_
  simp only [Int.toNat_natCast, a1]
  have hm0 := Int.emod_nonneg x (show g ≠ 0 by omega)
  have hm1 := Int.emod_lt_of_pos x hg
  refine ⟨by omega, h1, by omega, w1.1, Cl.to (sp_X10_restBy w1 hx hg hg2) (Cl.to (sp_gcd (by omega) (by omega) (by omega) (by omega)) ?_)⟩
  have hc0 : 0 < Int.gcd g (x % g) := Int.gcd_pos_of_ne_zero_left _ (by omega)
  have hc1 := gcd_mod_int hg hx.nonneg
  generalize Int.gcd g (x % g) = c at *
  have hcm : max (1 : Int) (c : Int) = (c : Int) := by omega
  rw [hcm, a1, Int.toNat_natCast]
  have hdg : c ∣ g.natAbs := by rw [hc1]; exact Nat.gcd_dvd_left _ _
  have hdx : c ∣ x.natAbs := by rw [hc1]; exact Nat.gcd_dvd_right _ _
  have hcg : c ≤ g.natAbs := Nat.le_of_dvd (by omega) hdg
  refine ⟨by omega, w1.1, (sp_X10_divide w1 hx (g := (c : Int)) (by omega) (by omega)).mono ?_⟩
  rintro _ ⟨f, rfl, hf⟩
  have k2 := hr0.keep (f := f) w1.2.1
  obtain ⟨-, ⟨b1, b2, b3, b4, b5⟩, u1, u2, u3, u4, u5⟩ := id k2
  obtain ⟨G, eG⟩ := hdg
  obtain ⟨X, eX⟩ := hdx
  have eg : g = (c : Int) * (G : Int) := by
    have : g = (g.natAbs : Int) := by omega
    rw [this, eG, Int.natCast_mul]
  have ex : x = (c : Int) * (X : Int) := by
    have := hx.nonneg
    have : x = (x.natAbs : Int) := by omega
    rw [this, eX, Int.natCast_mul]
  have e1 : Int.tdiv g (c : Int) = (G : Int) := by rw [eg]; exact Int.mul_tdiv_cancel_left _ (by omega)
  have e2 : x / (c : Int) = (X : Int) := by rw [ex]; exact Int.mul_ediv_cancel_left _ (by omega)
  rw [e2] at hf
  have hGg : (G : Int) ≤ g := by
    have : 1 * (G : Int) ≤ (c : Int) * (G : Int) := Int.mul_le_mul_of_nonneg_right (by omega) (by omega)
    omega
  have hG0 : 0 < (G : Int) := by
    rcases Nat.eq_zero_or_pos G with q | q
    · subst q; simp at eg; omega
    · omega
  rw [e1, b3, Int.toNat_natCast]
  refine ⟨by omega, ⟨by omega, by omega⟩, by omega, w3.1, (sp_X10_put u3 (show 0 ≤ (G : Int) by omega) (by omega)).mono ?_⟩
  rintro _ ⟨f2, rfl, hf2⟩
  have k3 := k2.keep (f := f2) w3.2.1
  obtain ⟨-, ⟨n1, n2, n3, n4, n5⟩, o1, o2, o3, o4, o5⟩ := id k3
  rw [n4, n2, Int.toNat_natCast]
  refine ⟨by omega, w4.1, (sp_X10_copy o4 o2 (v := y) (by rw [upA_ne (by omega), upA_ne (by omega)]; exact hy)).mono ?_⟩
  rintro _ ⟨f3, rfl, hf3⟩
  have k4 := k3.keep (f := f3) w4.2.1
  obtain ⟨-, ⟨p1, p2, p3, p4, p5⟩, z1, z2, z3, z4, z5⟩ := id k4
  have hGy : (G : Int) * y ≤ y * g := by
    have := Int.mul_le_mul_of_nonneg_right hGg hy.nonneg
    rw [Int.mul_comm y g]; exact this
  rw [p2, p3, p4, Int.toNat_natCast]
  refine ⟨by omega, w2.1, (sp_X10_product z2 z3 z4 (by omega) (by omega) (x := (G : Int)) (y := y) (by rw [upA_ne (by omega), upA_same]; exact hf2) (by rw [upA_same]; exact hf3) (by omega)).mono ?_⟩
  rintro _ ⟨f4, rfl, hf4⟩
  refine ⟨k4.keep w2.2.1, (((Same.rf.up ⟨by omega, by omega⟩).up ⟨by omega, by omega⟩).up ⟨by omega, by omega⟩).up ⟨by omega, by omega⟩, (X : Int), (G : Int) * y, ?_, by rw [upA_same]; exact hf4, ⟨Int.mul_pos hG0 hred.1, ?_⟩, ?_, ?_, hGy⟩
  · rw [upA_ne (by omega), upA_ne (by omega), upA_ne (by omega), upA_same]; exact hf
  · show Nat.gcd (X : Int).natAbs ((G : Int) * y).natAbs = 1
    rw [Int.natAbs_mul, Int.natAbs_natCast, Int.natAbs_natCast]
    have hXy : Nat.gcd X y.natAbs = 1 := by
      have : Nat.gcd (c * X) y.natAbs = 1 := by rw [← eX]; exact hred.2
      exact Nat.Coprime.coprime_mul_left this
    have hXG : Nat.gcd X G = 1 := by
      have h : Nat.gcd g.natAbs x.natAbs = c * Nat.gcd G X := by rw [eG, eX, Nat.gcd_mul_left]
      rw [← hc1] at h
      have h2 : c * 1 = c * Nat.gcd G X := by omega
      rw [Nat.gcd_comm]
      exact (Nat.eq_of_mul_eq_mul_left hc0 h2).symm
    exact cop_mul hXG hXy
  · rw [eg, ex]
    clear hf hf2 hf3 hf4 hGy hGg e1 e2 eg ex
    grind
  · have : 1 * (X : Int) ≤ (c : Int) * (X : Int) := Int.mul_le_mul_of_nonneg_right (by omega) (by omega)
    omega
