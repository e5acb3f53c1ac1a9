/-! RodBeam$Beam: reckon -/
theorem frac_nn {a0 D M a1 : Int} (e : a0 * D = M * a1) (hD : 0 < D) (hM : 0 ≤ M) (ha : 0 < a1) : 0 ≤ a0 := by
  rcases Int.lt_or_le a0 0 with g | g
  · have h1 := Int.mul_neg_of_neg_of_pos g hD
    have h2 := Int.mul_nonneg hM (Int.le_of_lt ha)
    omega
  · exact g
theorem frac_add {x0 y0 X Y u0 v0 U V s0 s1 : Int} (hy : 0 < y0) (hv : 0 < v0) (h1 : x0 * Y = X * y0) (h2 : u0 * V = U * v0) (h3 : s0 * (y0 * v0) = (x0 * v0 + u0 * y0) * s1) : s0 * (Y * V) = (X * V + U * Y) * s1 := by
  have e1 : s0 * (Y * V) * (y0 * v0) = s0 * (y0 * v0) * (Y * V) := by grind
  have e2 : (x0 * v0 + u0 * y0) * s1 * (Y * V) = (x0 * Y * (v0 * V) + u0 * V * (y0 * Y)) * s1 := by grind
  have e3 : (X * y0 * (v0 * V) + U * v0 * (y0 * Y)) * s1 = (X * V + U * Y) * s1 * (y0 * v0) := by grind
  have e : s0 * (Y * V) * (y0 * v0) = (X * V + U * Y) * s1 * (y0 * v0) := by rw [e1, h3, e2, h1, h2, e3]
  have hp := Int.mul_pos hy hv
  exact Int.eq_of_mul_eq_mul_right (by omega) e
theorem frac_div {p r X Y F p' r' : Int} (hr : 0 < r) (h1 : p * Y = X * r) (h2 : p' * (r * F) = p * r') : p' * (Y * F) = X * r' := by
  have e1 : p' * (Y * F) * r = p' * (r * F) * Y := by grind
  have e2 : p * r' * Y = p * Y * r' := by grind
  have e3 : X * r * r' = X * r' * r := by grind
  have e : p' * (Y * F) * r = X * r' * r := by rw [e1, h2, e2, h1, e3]
  exact Int.eq_of_mul_eq_mul_right (by omega) e
theorem sumN_pos {g : Nat → Int} {l n : Nat} (h : ∀ j, j < n → 0 ≤ g j) (hl : l < n) (hg : 0 < g l) : 0 < sumN g n := by
  have := sumN_lt (f := fun _ => 0) (g := g) hl h (by show (0 : Int) + 1 ≤ g l; omega)
  rw [sumN_zero (fun _ _ => rfl)] at this
  omega
theorem HogIs.bd {c k : Nat} {h0 h1 T B : Int} {hg : Nat → Int × Int} (h : HogIs c h0 h1 hg k T B) (hc : 1 ≤ c) (hk : k ≤ c) (hb : ∀ j, j < c → (0 < (hg j).2 ∧ (hg j).2 ≤ 80000) ∧ 0 ≤ (hg j).1 ∧ (hg j).1 ≤ 19200000000) : (0 < B ∧ B ≤ 80000) ∧ 0 ≤ T ∧ T ≤ 19200000000 := by
  have use : ∀ j, j < c → (T, B) = hg j → (0 < B ∧ B ≤ 80000) ∧ 0 ≤ T ∧ T ≤ 19200000000 := fun j hj e => by
    have := hb j hj
    rw [← e] at this
    exact this
  rcases h with ⟨-, e1, e2⟩ | ⟨-, -, e⟩ | ⟨-, a, b, e⟩ | ⟨a, b, e | e, -⟩
  · omega
  · exact use 0 (by omega) e
  · exact use (k - 1) (by omega) e
  · exact use (k - 1) (by omega) e
  · exact use k b e
section Rk
variable {d : Nat} {K : Shp} {H : Mem} {X c : Nat} {nb nr sx : Nat → Nat} {q : Mem → Prop}
theorem scale_at {a : Nat} {x S D : Int} (ka : K[a]? = some (5, 2)) (e0 : H a 0 = S) (e1 : H a 1 = D) (hD : 0 < D ∧ D ≤ 80000) (hS : 0 ≤ S ∧ S ≤ 19200000000) (hx : 0 ≤ x ∧ x ≤ 50)
    (hq : ∀ H' g, H' = upA H a g → Red (g 0) (g 1) → g 0 * D = S * x * g 1 → (0 ≤ g 0 ∧ g 0 ≤ 960000000000) → (0 < g 1 ∧ g 1 ≤ 80000) → q H') : Cv mX5_scale (d + 3) [(2, (a : Int)), (1, x)] K H q := by
  subst e0 e1
  have m := mul_bd hS.1 hS.2 hx.1 hx.2
  refine (sp_X5_scale ka hD.1 (by omega) (by omega) (by omega)).mono ?_
  rintro H' ⟨g, e, r, f, l1, l2⟩
  have n0 := frac_nn f hD.1 m.1 r.1
  have r1 := r.1
  exact hq H' g e r f ⟨n0, by omega⟩ ⟨r1, by omega⟩
theorem plus_at {a b : Nat} {A0 A1 B0 B1 : Int} (ka : K[a]? = some (5, 2)) (kb : K[b]? = some (5, 2)) (hab : b ≠ a) (e0 : H a 0 = A0) (e1 : H a 1 = A1) (e2 : H b 0 = B0) (e3 : H b 1 = B1) (h0 : 0 ≤ A0 ∧ A0 ≤ 960000000000) (h1 : 0 < A1 ∧ A1 ≤ 80000) (h2 : 0 ≤ B0 ∧ B0 ≤ 960000000000) (h3 : 0 < B1 ∧ B1 ≤ 80000)
    (hq : ∀ H' g, H' = upA H a g → Red (g 0) (g 1) → g 0 * (A1 * B1) = (A0 * B1 + B0 * A1) * g 1 → (0 ≤ g 0 ∧ g 0 ≤ 153600000000000000) → (0 < g 1 ∧ g 1 ≤ 6400000000) → q H') : Cv mX5_plus (d + 3) [(2, (a : Int)), (2, (b : Int))] K H q := by
  subst e0 e1 e2 e3
  have m1 := mul_bd h0.1 h0.2 (Int.le_of_lt h3.1) h3.2
  have m2 := mul_bd h2.1 h2.2 (Int.le_of_lt h1.1) h1.2
  have m3 := mul_bd (Int.le_of_lt h1.1) h1.2 (Int.le_of_lt h3.1) h3.2
  have m4 := Int.mul_pos h1.1 h3.1
  refine (sp_X5_plus ka kb hab h1.1 h3.1 (by omega) ⟨by omega, by omega⟩ ⟨by omega, by omega⟩ (by omega) (by omega)).mono ?_
  rintro H' ⟨g, e, r, f, l1, l2⟩
  have n0 := frac_nn f m4 (by omega) r.1
  have r1 := r.1
  exact hq H' g e r f ⟨n0, by omega⟩ ⟨r1, by omega⟩
theorem sum_at {p w r : Nat} {A0 A1 B0 B1 : Int} (hr : RatK K H r) (kp : K[p]? = some (5, 2)) (kw : K[w]? = some (5, 2)) (dp : p < r ∨ r + 10 < p) (dw : w < r ∨ r + 10 < w) (e0 : H p 0 = A0) (e1 : H p 1 = A1) (e2 : H w 0 = B0) (e3 : H w 1 = B1) (rp : Red A0 A1) (rw' : Red B0 B1) (h0 : 0 ≤ A0 ∧ A0 ≤ 153600000000000000) (h1 : 0 < A1 ∧ A1 ≤ 6400000000) (h2 : 0 ≤ B0 ∧ B0 ≤ 960000000000) (h3 : 0 < B1 ∧ B1 ≤ 80000)
    (hq : ∀ H' x' y', RatK K H' r → Same (RatC r) H H' → Dig (H' (r + 2)) x' → Dig (H' (r + 4)) y' → Red x' y' → x' * (A1 * B1) = (A0 * B1 + B0 * A1) * y' → x' ≤ 18432000000000000000000 → y' ≤ 512000000000000 → q H') : Cv mX3_putSum (d + 3) [(2, (r : Int)), (2, (p : Int)), (2, (w : Int))] K H q := by
  subst e0 e1 e2 e3
  have m1 := mul_bd h0.1 h0.2 (Int.le_of_lt h3.1) h3.2
  have m2 := mul_bd h2.1 h2.2 (Int.le_of_lt h1.1) h1.2
  have m3 := mul_bd (Int.le_of_lt h1.1) h1.2 (Int.le_of_lt h3.1) h3.2
  refine sp_X3_putSum hr kp kw dp dw rp rw' h0.1 h2.1 (by omega) (by omega) (by omega) (by omega) ?_
  intro H' x' y' k s dx dy rd e lx ly
  exact hq H' x' y' k s dx dy rd e (by omega) (by omega)
theorem div_at {r : Nat} {x y g : Int} (hr : RatK K H r) (hx : Dig (H (r + 2)) x) (hy : Dig (H (r + 4)) y) (hred : Red x y) (hg : 0 < g ∧ g ≤ 5000000) (hx2 : x ≤ 18432000000000000000000) (hyb : y ≤ 512000000000000)
    (hq : ∀ H' x' y', RatK K H' r → Same (RatC r) H H' → Dig (H' (r + 2)) x' → Dig (H' (r + 4)) y' → Red x' y' → x' * (y * g) = x * y' → x' ≤ 18432000000000000000000 → y' ≤ 2560000000000000000000 → q H') : Cv mX3_divide (d + 3) [(2, (r : Int)), (1, g)] K H q := by
  have m := mul_bd hy.nonneg hyb (Int.le_of_lt hg.1) hg.2
  refine sp_X3_divide hr hx hy hred hg.1 (by omega) (by omega) ?_
  intro H' x' y' k s dx dy rd e lx ly
  exact hq H' x' y' k s dx dy rd e (by omega) (by omega)
theorem sag_of {j t : Nat} (h : BmI K H X c nb nr sx) (hj : j < c) (kt : K[t]? = some (5, 2)) (t0 : X + 50 ≤ t) (t1 : t ≤ X + 53)
    (hq : ∀ H', (∀ x, x ≠ t → (x < X + 46 ∨ X + 49 < x) → H' x = H x) → WkP (H' (X + 46)) (X + 46) → H' t 0 = (hgF H X nb nr sx 1 j).1 → H' t 1 = (hgF H X nb nr sx 1 j).2 → q H') : Cv mX0_putSag (d + 2) [(2, ((X + 21 : Nat) : Int)), (2, ((X + 83 + 10 * sx j : Nat) : Int)), (2, (t : Int))] K H q := by
  obtain ⟨h1, h2, h3, h4, h5, h6, h7⟩ := h
  have g := (h7 j hj).2
  refine sp_X0_putSag h1 h2.2.2.2.2.2.1 g h3 (h4 _ g) kt t0 t1 ?_
  intro H' N D P Z hW o w e0 e1
  have := bendP_eq hW
  exact hq H' o w (by unfold hgF; rw [this]; exact e0) (by unfold hgF; rw [this]; exact e1)
theorem BmI.hb (h : BmI K H X c nb nr sx) (hi : Int) : ∀ j, j < c → (0 < (hgF H X nb nr sx hi j).2 ∧ (hgF H X nb nr sx hi j).2 ≤ 80000) ∧ 0 ≤ (hgF H X nb nr sx hi j).1 ∧ (hgF H X nb nr sx hi j).1 ≤ 19200000000 := fun j hj => bendP_bd hi (h.2.2.2.1 _ (h.2.2.2.2.2.2 j hj).2)
end Rk
