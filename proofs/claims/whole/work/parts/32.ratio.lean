/-! RodBeam$Ratio -/
/-- nothing but the cells of P has changed -/
def Same (P : Nat → Prop) (H H' : Mem) : Prop := ∀ x, ¬ P x → H' x = H x
theorem Same.rf {P : Nat → Prop} {H : Mem} : Same P H H := fun _ _ => rfl
theorem Same.up {P : Nat → Prop} {H H' : Mem} {a : Nat} {f : Nat → Int} (h : Same P H H') (ha : P a) : Same P H (upA H' a f) := fun x hx => by
  rw [upA_ne (fun e => hx (by rw [e]; exact ha))]; exact h x hx
theorem Same.trans {P : Nat → Prop} {H H' H2 : Mem} (h : Same P H H') (h2 : Same P H' H2) : Same P H H2 := fun x hx => (h2 x hx).trans (h x hx)
theorem Same.wide {P P' : Nat → Prop} {H H' : Mem} (h : Same P H H') (hp : ∀ x, P x → P' x) : Same P' H H' := fun x hx => h x (fun q => hx (hp x q))
/-- the shapes of a Ratio at r and what its fields point at -/
def RatK (K : Shp) (H : Mem) (r : Nat) : Prop := K[r]? = some (3, 5) ∧ (H r 0 = ((r + 1 : Nat) : Int) ∧ H r 1 = ((r + 3 : Nat) : Int) ∧ H r 2 = ((r + 5 : Nat) : Int) ∧ H r 3 = ((r + 7 : Nat) : Int) ∧ H r 4 = ((r + 9 : Nat) : Int)) ∧ WhK K H (r + 1) ∧ WhK K H (r + 3) ∧ WhK K H (r + 5) ∧ WhK K H (r + 7) ∧ WhK K H (r + 9)
theorem RatK.keep {K : Shp} {H : Mem} {r b n : Nat} {f : Nat → Int} (h : RatK K H r) (hb : K[b]? = some (21, n)) : RatK K (upA H b f) r := by
  obtain ⟨h1, ⟨a1, a2, a3, a4, a5⟩, w1, w2, w3, w4, w5⟩ := h
  have e : upA H b f r = H r := upA_ne (ne_kind h1 hb (by simp))
  exact ⟨h1, by rw [e]; exact ⟨a1, a2, a3, a4, a5⟩, w1.keep hb, w2.keep hb, w3.keep hb, w4.keep hb, w5.keep hb⟩
/-- the cells that a Ratio's methods write -/
def RatC (r : Nat) (x : Nat) : Prop := r < x ∧ x ≤ r + 10
theorem sp_X3_put {d : Nat} {K : Shp} {H : Mem} {r : Nat} {x y : Int} (hr : RatK K H r) (hx0 : 0 ≤ x) (hx : x ≤ 9223372036854775807) (hy0 : 0 ≤ y) (hy : y ≤ 9223372036854775807) : Cv mX3_put (d + 1) [(2, (r : Int)), (1, x), (1, y)] K H (fun H' => RatK K H' r ∧ Same (RatC r) H H' ∧ Dig (H' (r + 2)) x ∧ Dig (H' (r + 4)) y) := by
  have hr0 := hr
  obtain ⟨h1, ⟨a1, a2, a3, a4, a5⟩, w1, w2, w3, w4, w5⟩ := hr
  refine eX3_put fun _ _ _ => ?_
  refine bX3_put_0 ?_
  simp only [Int.toNat_natCast, a1]
  refine ⟨by omega, h1, by omega, w1.1, (sp_X10_put w1 hx0 hx).mono ?_⟩
  rintro _ ⟨f, rfl, hf⟩
  have k2 := hr0.keep (f := f) w1.2.1
  obtain ⟨-, ⟨b1, b2, b3, b4, b5⟩, u1, u2, u3, u4, u5⟩ := id k2
  rw [b2, Int.toNat_natCast]
  refine ⟨by omega, w2.1, (sp_X10_put u2 hy0 hy).mono ?_⟩
  rintro _ ⟨g, rfl, hg⟩
  refine ⟨k2.keep w2.2.1, (Same.rf.up ⟨by omega, by omega⟩).up ⟨by omega, by omega⟩, ?_, ?_⟩
  · rw [upA_ne (by omega), upA_same]; exact hf
  · rw [upA_same]; exact hg
theorem sp_X3_copy {d : Nat} {K : Shp} {H : Mem} {r s : Nat} {x y : Int} (hr : RatK K H r) (hs : RatK K H s) (hrs : r + 10 < s ∨ s + 10 < r) (hx : Dig (H (s + 2)) x) (hy : Dig (H (s + 4)) y) : Cv mX3_copy (d + 2) [(2, (r : Int)), (2, (s : Int))] K H (fun H' => RatK K H' r ∧ RatK K H' s ∧ Same (RatC r) H H' ∧ Dig (H' (r + 2)) x ∧ Dig (H' (r + 4)) y) := by
  have hr0 := hr
  have hs0 := hs
  obtain ⟨h1, ⟨a1, a2, a3, a4, a5⟩, w1, w2, w3, w4, w5⟩ := hr
  obtain ⟨h2, ⟨c1, c2, c3, c4, c5⟩, v1, v2, v3, v4, v5⟩ := hs
  refine eX3_copy fun _ => ?_
  refine bX3_copy_0 ?_
  simp only [Int.toNat_natCast, a1, c1]
  refine ⟨by omega, h1, by omega, h2, by omega, w1.1, (sp_X10_copy w1 v1 hx).mono ?_⟩
  rintro _ ⟨f, rfl, hf⟩
  have k2 := hr0.keep (f := f) w1.2.1
  have s2 := hs0.keep (f := f) w1.2.1
  obtain ⟨-, ⟨b1, b2, b3, b4, b5⟩, u1, u2, u3, u4, u5⟩ := id k2
  obtain ⟨-, ⟨e1, e2, e3, e4, e5⟩, t1, t2, t3, t4, t5⟩ := id s2
  rw [b2, e2, Int.toNat_natCast]
  refine ⟨by omega, w2.1, (sp_X10_copy u2 t2 (v := y) (by rw [upA_ne (by omega)]; exact hy)).mono ?_⟩
  rintro _ ⟨g, rfl, hg⟩
  refine ⟨k2.keep w2.2.1, s2.keep w2.2.1, (Same.rf.up ⟨by omega, by omega⟩).up ⟨by omega, by omega⟩, ?_, ?_⟩
  · rw [upA_ne (by omega), upA_same]; exact hf
  · rw [upA_same]; exact hg
theorem sp_X3_isUnder {d : Nat} {K : Shp} {H : Mem} {r s : Nat} {x y u v : Int} (hr : RatK K H r) (hs : RatK K H s) (hrs : r + 10 < s ∨ s + 10 < r) (hx : Dig (H (r + 2)) x) (hy : Dig (H (r + 4)) y) (hu : Dig (H (s + 2)) u) (hv : Dig (H (s + 4)) v) (h1 : x * v < 1000000000000000000000000000000000000000000000000000000) (h2 : u * y < 1000000000000000000000000000000000000000000000000000000) :
    Ci mX3_isUnder (d + 2) [(2, (r : Int)), (2, (s : Int))] K H (fun z H' => z = (if x * v < u * y then 1 else 0) ∧ RatK K H' r ∧ RatK K H' s ∧ Same (fun c => c = r + 6 ∨ c = r + 8) H H') := by
  have hr0 := hr
  have hs0 := hs
  obtain ⟨g1, ⟨a1, a2, a3, a4, a5⟩, w1, w2, w3, w4, w5⟩ := hr
  obtain ⟨g2, ⟨c1, c2, c3, c4, c5⟩, v1, v2, v3, v4, v5⟩ := hs
  refine eX3_isUnder fun _ => ?_
  refine bX3_isUnder_0 ?_
  simp only [Int.toNat_natCast, a1, a3, c2]
  refine ⟨by omega, g1, by omega, g2, by omega, w3.1, (sp_X10_product w3 w1 v2 (by omega) (by omega) hx hv h1).mono ?_⟩
  rintro _ ⟨f, rfl, hf⟩
  have k2 := hr0.keep (f := f) w3.2.1
  have s2 := hs0.keep (f := f) w3.2.1
  obtain ⟨-, ⟨b1, b2, b3, b4, b5⟩, u1, u2, u3, u4, u5⟩ := id k2
  obtain ⟨-, ⟨e1, e2, e3, e4, e5⟩, t1, t2, t3, t4, t5⟩ := id s2
  rw [b4, b2, e1, Int.toNat_natCast]
  refine ⟨by omega, w4.1, (sp_X10_product u4 t1 u2 (by omega) (by omega) (x := u) (y := y) (by rw [upA_ne (by omega)]; exact hu) (by rw [upA_ne (by omega)]; exact hy) h2).mono ?_⟩
  rintro _ ⟨g, rfl, hg⟩
  have k3 := k2.keep (f := g) w4.2.1
  have s3 := s2.keep (f := g) w4.2.1
  obtain ⟨-, ⟨n1, n2, n3, n4, n5⟩, o1, o2, o3, o4, o5⟩ := id k3
  rw [n3, n4, Int.toNat_natCast]
  refine ⟨by omega, w3.1, (sp_X10_isUnder o3 o4 (x := x * v) (y := u * y) (by rw [upA_ne (by omega), upA_same]; exact hf) (by rw [upA_same]; exact hg)).mono ?_⟩
  rintro z _ ⟨rfl, rfl⟩
  refine ⟨by split <;> simp, rfl, k3, s3, (Same.rf.up (Or.inl rfl)).up (Or.inr rfl)⟩
theorem gcd_mod_int {s t : Int} (hs : 0 < s) (ht : 0 ≤ t) : Int.gcd s (t % s) = Nat.gcd s.natAbs t.natAbs := by
  obtain ⟨a, rfl⟩ := Int.eq_ofNat_of_zero_le (show 0 ≤ s by omega)
  obtain ⟨b, rfl⟩ := Int.eq_ofNat_of_zero_le ht
  rw [← Int.natCast_emod]
  show Nat.gcd a (b % a) = Nat.gcd a b
  rw [Nat.gcd_comm a b, Nat.gcd_rec b a |> fun _ => Nat.gcd_comm b a, Nat.gcd_rec a b, Nat.gcd_comm]
theorem sp_X3_divide {d : Nat} {K : Shp} {H : Mem} {r : Nat} {x y g : Int} (hr : RatK K H r) (hx : Dig (H (r + 2)) x) (hy : Dig (H (r + 4)) y) (hred : Red x y) (hg : 0 < g) (hg2 : g ≤ 9000000000) (hb : y * g < 1000000000000000000000000000000000000000000000000000000) :
    Cv mX3_divide (d + 2) [(2, (r : Int)), (1, g)] K H (fun H' => RatK K H' r ∧ Same (RatC r) H H' ∧ ∃ x' y', Dig (H' (r + 2)) x' ∧ Dig (H' (r + 4)) y' ∧ Red x' y' ∧ x' * (y * g) = x * y' ∧ x' ≤ x ∧ y' ≤ y * g) := by
  have hr0 := hr
  obtain ⟨h1, ⟨a1, a2, a3, a4, a5⟩, w1, w2, w3, w4, w5⟩ := hr
  refine eX3_divide fun _ _ => ?_
  refine bX3_divide_0 ?_
  simp only [Int.toNat_natCast, a1]
  have hm0 := Int.emod_nonneg x (show g ≠ 0 by omega)
  have hm1 := Int.emod_lt_of_pos x hg
  refine ⟨by omega, h1, by omega, w1.1, Cl.to (sp_X10_restBy w1 hx hg hg2) (Cl.to (sp_gcd (by omega) (by omega) (by omega) (by omega)) ?_)⟩
  have hc0 : 0 < Int.gcd g (x % g) := Int.gcd_pos_of_ne_zero_left _ (by omega)
  have hc1 := gcd_mod_int hg hx.nonneg
  generalize Int.gcd g (x % g) = c at *
  have hcm : max (1 : Int) (c : Int) = (c : Int) := by omega
  rw [hcm, a1, Int.toNat_natCast]
  have hdg : c ∣ g.natAbs := hc1 ▸ Nat.gcd_dvd_left _ _
  have hdx : c ∣ x.natAbs := hc1 ▸ Nat.gcd_dvd_right _ _
  have hcg : c ≤ g.natAbs := Nat.le_of_dvd (by omega) hdg
  refine ⟨by omega, w1.1, (sp_X10_divide w1 hx (g := (c : Int)) (by omega) (by omega)).mono ?_⟩
  rintro _ ⟨f, rfl, hf⟩
  have k2 := hr0.keep (f := f) w1.2.1
  obtain ⟨-, ⟨b1, b2, b3, b4, b5⟩, u1, u2, u3, u4, u5⟩ := id k2
  obtain ⟨G, eG⟩ := hdg
  obtain ⟨X, eX⟩ := hdx
  have eg : g = (c : Int) * (G : Int) := by
    have : g = (g.natAbs : Int) := by omega
    rw [this, eG, Int.natCast_mul]
  have ex : x = (c : Int) * (X : Int) := by
    have := hx.nonneg
    have : x = (x.natAbs : Int) := by omega
    rw [this, eX, Int.natCast_mul]
  have e1 : Int.tdiv g (c : Int) = (G : Int) := by rw [eg]; exact Int.mul_tdiv_cancel_left _ (by omega)
  have e2 : x / (c : Int) = (X : Int) := by rw [ex]; exact Int.mul_ediv_cancel_left _ (by omega)
  rw [e2] at hf
  have hGg : (G : Int) ≤ g := by
    have : 1 * (G : Int) ≤ (c : Int) * (G : Int) := Int.mul_le_mul_of_nonneg_right (by omega) (by omega)
    omega
  have hG0 : 0 < (G : Int) := by
    rcases Nat.eq_zero_or_pos G with q | q
    · subst q; simp at eg; omega
    · omega
  rw [e1, b3, Int.toNat_natCast]
  refine ⟨by omega, ⟨by omega, by omega⟩, by omega, w3.1, (sp_X10_put u3 (show 0 ≤ (G : Int) by omega) (by omega)).mono ?_⟩
  rintro _ ⟨f2, rfl, hf2⟩
  have k3 := k2.keep (f := f2) w3.2.1
  obtain ⟨-, ⟨n1, n2, n3, n4, n5⟩, o1, o2, o3, o4, o5⟩ := id k3
  rw [n4, n2, Int.toNat_natCast]
  refine ⟨by omega, w4.1, (sp_X10_copy o4 o2 (v := y) (by rw [upA_ne (by omega), upA_ne (by omega)]; exact hy)).mono ?_⟩
  rintro _ ⟨f3, rfl, hf3⟩
  have k4 := k3.keep (f := f3) w4.2.1
  obtain ⟨-, ⟨p1, p2, p3, p4, p5⟩, z1, z2, z3, z4, z5⟩ := id k4
  have hGy : (G : Int) * y ≤ y * g := by
    have := Int.mul_le_mul_of_nonneg_right hGg hy.nonneg
    rw [Int.mul_comm y g]; exact this
  rw [p2, p3, p4, Int.toNat_natCast]
  refine ⟨by omega, w2.1, (sp_X10_product z2 z3 z4 (by omega) (by omega) (x := (G : Int)) (y := y) (by rw [upA_ne (by omega), upA_same]; exact hf2) (by rw [upA_same]; exact hf3) (by omega)).mono ?_⟩
  rintro _ ⟨f4, rfl, hf4⟩
  refine ⟨k4.keep w2.2.1, (((Same.rf.up ⟨by omega, by omega⟩).up ⟨by omega, by omega⟩).up ⟨by omega, by omega⟩).up ⟨by omega, by omega⟩, (X : Int), (G : Int) * y, ?_, by rw [upA_same]; exact hf4, ⟨Int.mul_pos hG0 hred.1, ?_⟩, ?_, ?_, hGy⟩
  · rw [upA_ne (by omega), upA_ne (by omega), upA_ne (by omega), upA_same]; exact hf
  · show Nat.gcd (X : Int).natAbs ((G : Int) * y).natAbs = 1
    rw [Int.natAbs_mul, Int.natAbs_natCast, Int.natAbs_natCast]
    have hXy : Nat.gcd X y.natAbs = 1 := by
      have : Nat.gcd (c * X) y.natAbs = 1 := by rw [← eX]; exact hred.2
      exact Nat.Coprime.coprime_mul_left this
    have hXG : Nat.gcd X G = 1 := by
      have h : Nat.gcd g.natAbs x.natAbs = c * Nat.gcd G X := by rw [eG, eX, Nat.gcd_mul_left]
      rw [← hc1] at h
      have h2 : c * 1 = c * Nat.gcd G X := by omega
      rw [Nat.gcd_comm]
      exact (Nat.eq_of_mul_eq_mul_left hc0 h2).symm
    exact cop_mul hXG hXy
  · rw [eg, ex]
    clear hf hf2 hf3 hf4 hGy hGg e1 e2 eg ex
    grind
  · have : 1 * (X : Int) ≤ (c : Int) * (X : Int) := Int.mul_le_mul_of_nonneg_right (by omega) (by omega)
    omega
theorem nat_of {x : Int} (h : 0 ≤ x) : ∃ n : Nat, x = (n : Int) := Int.eq_ofNat_of_zero_le h
theorem ring_sum {A B a b s c s' x t : Int} (ht : t = A * b + B * a) (et : t = c * x) (es : s = c * s') : x * ((a * s) * (b * s)) = (A * (b * s) + B * (a * s)) * (a * (b * s')) := by
  have h : A * (b * s) + B * (a * s) = t * s := by rw [ht]; grind
  rw [h, et]
  subst es
  grind
theorem sp_X3_putSum {d : Nat} {K : Shp} {H : Mem} {r p q : Nat} (hr : RatK K H r) (hp : K[p]? = some (5, 2)) (hq : K[q]? = some (5, 2)) (h1 : Red (H p 0) (H p 1)) (h2 : Red (H q 0) (H q 1)) (a0 : 0 ≤ H p 0) (a1 : H p 0 ≤ 9223372036854775807) (b0 : 0 ≤ H q 0) (b1 : H q 0 ≤ 9223372036854775807) (a2 : H p 1 ≤ 9000000000) (b2 : H q 1 ≤ 9000000000) :
    Cv mX3_putSum (d + 2) [(2, (r : Int)), (2, (p : Int)), (2, (q : Int))] K H (fun H' => RatK K H' r ∧ Same (RatC r) H H' ∧ ∃ x y, Dig (H' (r + 2)) x ∧ Dig (H' (r + 4)) y ∧ Red x y ∧ x * (H p 1 * H q 1) = (H p 0 * H q 1 + H q 0 * H p 1) * y ∧ x ≤ H p 0 * H q 1 + H q 0 * H p 1 ∧ y ≤ H p 1 * H q 1) := by
  have hr0 := hr
  obtain ⟨g1, ⟨c1, c2, c3, c4, c5⟩, w1, w2, w3, w4, w5⟩ := hr
  have kp : ∀ {G : Mem} {z n : Nat} {f : Nat → Int}, K[z]? = some (21, n) → upA G z f p = G p := fun hz => upA_ne (ne_kind hp hz (by simp))
  have kq : ∀ {G : Mem} {z n : Nat} {f : Nat → Int}, K[z]? = some (21, n) → upA G z f q = G q := fun hz => upA_ne (ne_kind hq hz (by simp))
  refine eX3_putSum fun _ => ?_
  refine bX3_putSum_0 ?_
  simp only [Int.toNat_natCast]
  have pA1 := h1.1
  have pB1 := h2.1
  refine ⟨by omega, hp, by omega, hq, Cl.to (sp_gcd (by omega) (by omega) (by omega) (by omega)) ?_⟩
  rw [c3, Int.toNat_natCast]
  have hs0 : 0 < Int.gcd (H p 1) (H q 1) := Int.gcd_pos_of_ne_zero_left _ (by omega)
  have hsl : Int.gcd (H p 1) (H q 1) ∣ (H p 1).natAbs := Nat.gcd_dvd_left _ _
  have hsr : Int.gcd (H p 1) (H q 1) ∣ (H q 1).natAbs := Nat.gcd_dvd_right _ _
  have hse : Nat.gcd (H p 1).natAbs (H q 1).natAbs = Int.gcd (H p 1) (H q 1) := rfl
  have r1 := h1.2
  have r2 := h2.2
  generalize Int.gcd (H p 1) (H q 1) = s at *
  generalize hA : H p 0 = A at *
  generalize hB : H q 0 = B at *
  generalize hA1 : H p 1 = A1 at *
  generalize hB1 : H q 1 = B1 at *
  obtain ⟨A, rfl⟩ := nat_of a0
  obtain ⟨B, rfl⟩ := nat_of b0
  obtain ⟨A1, rfl⟩ := nat_of (show 0 ≤ A1 by omega)
  obtain ⟨B1, rfl⟩ := nat_of (show 0 ≤ B1 by omega)
  rw [Int.natAbs_natCast] at hsl hsr
  rw [Int.natAbs_natCast, Int.natAbs_natCast] at hse
  obtain ⟨a, ea⟩ := hsl
  obtain ⟨b, eb⟩ := hsr
  have hmax : max (1 : Int) (s : Int) = (s : Int) := by omega
  have ta : Int.tdiv (A1 : Int) (s : Int) = (a : Int) := by rw [ea, Int.natCast_mul]; exact Int.mul_tdiv_cancel_left _ (by omega)
  have tb : Int.tdiv (B1 : Int) (s : Int) = (b : Int) := by rw [eb, Int.natCast_mul]; exact Int.mul_tdiv_cancel_left _ (by omega)
  have la : a ≤ A1 := by rw [ea]; exact Nat.le_mul_of_pos_left _ hs0
  have lb : b ≤ B1 := by rw [eb]; exact Nat.le_mul_of_pos_left _ hs0
  have ls : s ≤ B1 := Nat.le_of_dvd (by omega) ⟨b, eb⟩
  have hab : Nat.gcd a b = 1 := by
    have h : Nat.gcd A1 B1 = s * Nat.gcd a b := by rw [ea, eb, Nat.gcd_mul_left]
    rw [hse] at h
    have h3 : s * 1 = s * Nat.gcd a b := by omega
    exact (Nat.eq_of_mul_eq_mul_left hs0 h3).symm
  have m1 : A * b ≤ 9223372036854775807 * 9000000000 := Nat.mul_le_mul (by omega) (by omega)
  have m2 : B * a ≤ 9223372036854775807 * 9000000000 := Nat.mul_le_mul (by omega) (by omega)
  rw [hmax]
  refine ⟨by omega, g1, by omega, w3.1, (sp_X10_put w3 (show 0 ≤ (A : Int) by omega) (by omega)).mono ?_⟩
  rintro _ ⟨f1, rfl, hf1⟩
  have k1 := hr0.keep (f := f1) w3.2.1
  obtain ⟨-, ⟨-, -, -, n4, -⟩, -, -, -, u4, -⟩ := id k1
  rw [kq w3.2.1, hB1, tb, n4, Int.toNat_natCast]
  refine ⟨by omega, ⟨by omega, by omega⟩, by omega, w4.1, (sp_X10_put u4 (show 0 ≤ (b : Int) by omega) (by omega)).mono ?_⟩
  rintro _ ⟨f2, rfl, hf2⟩
  have k2 := k1.keep (f := f2) w4.2.1
  obtain ⟨-, ⟨o1, -, o3, o4, -⟩, v1, -, v3, v4, -⟩ := id k2
  rw [o1, o3, o4, Int.toNat_natCast]
  refine ⟨by omega, w1.1, (sp_X10_product v1 v3 v4 (by omega) (by omega) (x := (A : Int)) (y := (b : Int)) (by rw [upA_ne (by omega), upA_same]; exact hf1) (by rw [upA_same]; exact hf2) (by rw [← Int.natCast_mul]; omega)).mono ?_⟩
  rintro _ ⟨f3, rfl, hf3⟩
  have k3 := k2.keep (f := f3) w1.2.1
  obtain ⟨-, ⟨-, -, o3, -, -⟩, -, -, v3, -, -⟩ := id k3
  rw [kq w1.2.1, kq w4.2.1, kq w3.2.1, hB, o3, Int.toNat_natCast]
  refine ⟨by omega, w3.1, (sp_X10_put v3 (show 0 ≤ (B : Int) by omega) (by omega)).mono ?_⟩
  rintro _ ⟨f4, rfl, hf4⟩
  have k4 := k3.keep (f := f4) w3.2.1
  obtain ⟨-, ⟨-, -, -, o4, -⟩, -, -, -, v4, -⟩ := id k4
  rw [kp w3.2.1, kp w1.2.1, kp w4.2.1, kp w3.2.1, hA1, ta, o4, Int.toNat_natCast]
  refine ⟨⟨by omega, by omega⟩, by omega, w4.1, (sp_X10_put v4 (show 0 ≤ (a : Int) by omega) (by omega)).mono ?_⟩
  rintro _ ⟨f5, rfl, hf5⟩
  have k5 := k4.keep (f := f5) w4.2.1
  obtain ⟨-, ⟨-, -, o3, o4, o5⟩, -, -, v3, v4, v5⟩ := id k5
  rw [o3, o4, o5, Int.toNat_natCast]
  refine ⟨by omega, w5.1, (sp_X10_product v5 v3 v4 (by omega) (by omega) (x := (B : Int)) (y := (a : Int)) (by rw [upA_ne (by omega), upA_same]; exact hf4) (by rw [upA_same]; exact hf5) (by rw [← Int.natCast_mul]; omega)).mono ?_⟩
  rintro _ ⟨f6, rfl, hf6⟩
  have k6 := k5.keep (f := f6) w5.2.1
  obtain ⟨-, ⟨o1, -, -, -, o5⟩, v1, -, -, -, v5⟩ := id k6
  rw [o1, o5, Int.toNat_natCast]
  refine ⟨by omega, w1.1, (sp_X10_plus v1 v5 (by omega) (x := (A : Int) * b) (y := (B : Int) * a) (by rw [upA_ne (by omega), upA_ne (by omega), upA_ne (by omega), upA_same]; exact hf3) (by rw [upA_same]; exact hf6) (by rw [← Int.natCast_mul, ← Int.natCast_mul]; omega)).mono ?_⟩
  rintro _ ⟨f7, rfl, hf7⟩
  have k7 := k6.keep (f := f7) w1.2.1
  obtain ⟨-, ⟨o1, -, -, -, -⟩, v1, -, -, -, -⟩ := id k7
  obtain ⟨t, et⟩ : ∃ t : Nat, t = A * b + B * a := ⟨_, rfl⟩
  have eti : (A : Int) * b + (B : Int) * a = (t : Int) := by rw [et]; simp
  rw [eti] at hf7
  rw [o1, Int.toNat_natCast]
  refine ⟨by omega, w1.1, Cl.to (sp_X10_restBy v1 (x := (t : Int)) (by rw [upA_same]; exact hf7) (show 0 < (s : Int) by omega) (by omega)) (Cl.to (sp_gcd (by omega) (by omega) (by have := Int.emod_nonneg (t : Int) (show (s : Int) ≠ 0 by omega); omega) (by have := Int.emod_lt_of_pos (t : Int) (show 0 < (s : Int) by omega); omega)) ?_)⟩
  have hc1 := gcd_mod_int (s := (s : Int)) (t := (t : Int)) (by omega) (by omega)
  rw [Int.natAbs_natCast, Int.natAbs_natCast] at hc1
  have hc0 : 0 < Int.gcd (s : Int) ((t : Int) % (s : Int)) := Int.gcd_pos_of_ne_zero_left _ (by omega)
  generalize Int.gcd (s : Int) ((t : Int) % (s : Int)) = c at *
  have hcs : c ∣ s := hc1 ▸ Nat.gcd_dvd_left _ _
  have hct : c ∣ t := hc1 ▸ Nat.gcd_dvd_right _ _
  have lc : c ≤ s := Nat.le_of_dvd hs0 hcs
  have hmax2 : max (1 : Int) (c : Int) = (c : Int) := by omega
  rw [hmax2, o1, Int.toNat_natCast]
  refine ⟨by omega, w1.1, (sp_X10_divide v1 (x := (t : Int)) (g := (c : Int)) (by rw [upA_same]; exact hf7) (by omega) (by omega)).mono ?_⟩
  rintro _ ⟨f8, rfl, hf8⟩
  rw [upA_upA]
  have k8 := k6.keep (f := f8) w1.2.1
  obtain ⟨-, ⟨-, -, o3, -, -⟩, -, -, v3, -, -⟩ := id k8
  have zp : upA (upA (upA (upA (upA (upA (upA H (r + 5 + 1) f1) (r + 7 + 1) f2) (r + 1 + 1) f3) (r + 5 + 1) f4) (r + 7 + 1) f5) (r + 9 + 1) f6) (r + 1 + 1) f8 p = H p := by
    rw [kp w1.2.1, kp w5.2.1, kp w4.2.1, kp w3.2.1, kp w1.2.1, kp w4.2.1, kp w3.2.1]
  have zq : upA (upA (upA (upA (upA (upA (upA H (r + 5 + 1) f1) (r + 7 + 1) f2) (r + 1 + 1) f3) (r + 5 + 1) f4) (r + 7 + 1) f5) (r + 9 + 1) f6) (r + 1 + 1) f8 q = H q := by
    rw [kq w1.2.1, kq w5.2.1, kq w4.2.1, kq w3.2.1, kq w1.2.1, kq w4.2.1, kq w3.2.1]
  have sm8 : Same (RatC r) H (upA (upA (upA (upA (upA (upA (upA H (r + 5 + 1) f1) (r + 7 + 1) f2) (r + 1 + 1) f3) (r + 5 + 1) f4) (r + 7 + 1) f5) (r + 9 + 1) f6) (r + 1 + 1) f8) := by
    refine ((((((Same.rf.up ?_).up ?_).up ?_).up ?_).up ?_).up ?_).up ?_ <;> exact ⟨by omega, by omega⟩
  have d8 : upA (upA (upA (upA (upA (upA (upA H (r + 5 + 1) f1) (r + 7 + 1) f2) (r + 1 + 1) f3) (r + 5 + 1) f4) (r + 7 + 1) f5) (r + 9 + 1) f6) (r + 1 + 1) f8 (r + 2) = f8 := upA_same _ _ _
  generalize upA (upA (upA (upA (upA (upA (upA H (r + 5 + 1) f1) (r + 7 + 1) f2) (r + 1 + 1) f3) (r + 5 + 1) f4) (r + 7 + 1) f5) (r + 9 + 1) f6) (r + 1 + 1) f8 = G at *
  rw [zp, hA1, ta, o3, Int.toNat_natCast]
  refine ⟨⟨by omega, by omega⟩, by omega, w3.1, (sp_X10_put v3 (show 0 ≤ (a : Int) by omega) (by omega)).mono ?_⟩
  rintro _ ⟨f9, rfl, hf9⟩
  have k9 := k8.keep (f := f9) w3.2.1
  obtain ⟨-, ⟨-, -, -, o4, -⟩, -, -, -, v4, -⟩ := id k9
  obtain ⟨s', es⟩ := hcs
  obtain ⟨x', ex⟩ := hct
  have tB : Int.tdiv (B1 : Int) (c : Int) = ((b * s' : Nat) : Int) := by
    have : (B1 : Int) = (c : Int) * ((b * s' : Nat) : Int) := by
      rw [← Int.natCast_mul]
      congr 1
      rw [eb, es, Nat.mul_comm b s', ← Nat.mul_assoc]
    rw [this]
    exact Int.mul_tdiv_cancel_left _ (by omega)
  have lB : b * s' ≤ B1 := by
    rw [eb, es, Nat.mul_comm b s', Nat.mul_assoc]
    exact Nat.le_mul_of_pos_left _ hc0
  have hy : a * (b * s') ≤ A1 * B1 := Nat.mul_le_mul la lB
  have hy2 : A1 * B1 ≤ 9000000000 * 9000000000 := Nat.mul_le_mul (by omega) (by omega)
  rw [kq w3.2.1, zq, hB1, tB, o4, Int.toNat_natCast]
  refine ⟨by omega, ⟨by omega, by omega⟩, by omega, w4.1, (sp_X10_put v4 (show 0 ≤ ((b * s' : Nat) : Int) by omega) (by omega)).mono ?_⟩
  rintro _ ⟨f10, rfl, hf10⟩
  have k10 := k9.keep (f := f10) w4.2.1
  obtain ⟨-, ⟨-, o2, o3, o4, -⟩, -, v2, v3, v4, -⟩ := id k10
  rw [o2, o3, o4, Int.toNat_natCast]
  refine ⟨by omega, w2.1, (sp_X10_product v2 v3 v4 (by omega) (by omega) (x := (a : Int)) (y := ((b * s' : Nat) : Int)) (by rw [upA_ne (by omega), upA_same]; exact hf9) (by rw [upA_same]; exact hf10) (by rw [← Int.natCast_mul]; omega)).mono ?_⟩
  rintro _ ⟨f11, rfl, hf11⟩
  have e8 : (t : Int) / (c : Int) = (x' : Int) := by rw [ex, Int.natCast_mul]; exact Int.mul_ediv_cancel_left _ (by omega)
  rw [e8] at hf8
  refine ⟨k10.keep w2.2.1, ((sm8.up ⟨by omega, by omega⟩).up ⟨by omega, by omega⟩).up ⟨by omega, by omega⟩, (x' : Int), (a : Int) * ((b * s' : Nat) : Int), ?_, by rw [upA_same]; exact hf11, ⟨?_, ?_⟩, ?_, ?_, ?_⟩
  · rw [upA_ne (by omega), upA_ne (by omega), upA_ne (by omega), d8]; exact hf8
  · have p1 : 0 < a := by rcases Nat.eq_zero_or_pos a with z | z; (subst z; simp at ea; omega); exact z
    have p2 : 0 < b := by rcases Nat.eq_zero_or_pos b with z | z; (subst z; simp at eb; omega); exact z
    have p3 : 0 < s' := by rcases Nat.eq_zero_or_pos s' with z | z; (subst z; simp at es; omega); exact z
    have := Nat.mul_pos p1 (Nat.mul_pos p2 p3)
    rw [← Int.natCast_mul]
    omega
  · have hc2 : c = Nat.gcd s t := hc1
    have r1' : Nat.gcd A (a * s) = 1 := by rw [Nat.mul_comm a s, ← ea]; exact r1
    have r2' : Nat.gcd B (b * s) = 1 := by rw [Nat.mul_comm b s, ← eb]; exact r2
    have := sum_red r1' r2' hab et hc2 hc0
    rw [show t / c = x' by rw [ex, Nat.mul_div_cancel_left _ hc0], show s / c = s' by rw [es, Nat.mul_div_cancel_left _ hc0]] at this
    rw [← Int.natCast_mul]
    exact this
  · have := ring_sum (A := (A : Int)) (B := (B : Int)) (a := (a : Int)) (b := (b : Int)) (s := (s : Int)) (c := (c : Int)) (s' := (s' : Int)) (x := (x' : Int)) (t := (t : Int)) eti.symm (by rw [ex, Int.natCast_mul]) (by rw [es, Int.natCast_mul])
    rw [show (A1 : Int) = (a : Int) * s by rw [ea, Int.natCast_mul, Int.mul_comm], show (B1 : Int) = (b : Int) * s by rw [eb, Int.natCast_mul, Int.mul_comm], Int.natCast_mul]
    exact this
  · have q1 : x' ≤ t := by rw [ex]; exact Nat.le_mul_of_pos_left _ hc0
    have q2 : A * b ≤ A * B1 := Nat.mul_le_mul_left _ lb
    have q3 : B * a ≤ B * A1 := Nat.mul_le_mul_left _ la
    rw [← Int.natCast_mul, ← Int.natCast_mul]
    omega
  · rw [← Int.natCast_mul, ← Int.natCast_mul]
    omega
