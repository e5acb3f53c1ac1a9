/-! commonDivisor and RodBeam$Share -/
theorem half_mod {l r : Nat} (hr : 0 < r) (h : r < l) : 2 * (l % r) < l := by
  have h1 := Nat.mod_lt l hr
  have h2 := Nat.div_add_mod l r
  have h3 : 1 ≤ l / r := Nat.div_pos (Nat.le_of_lt h) hr
  have h4 : r * 1 ≤ r * (l / r) := Nat.mul_le_mul_left r h3
  omega
theorem gcd_loop {d : Nat} {K : Shp} {H : Mem} {q : Int → Mem → Prop} : ∀ (n g l i : Nat), l < 2 ^ n → n ≤ 45 → i + 2 * n ≤ 98 → g ≤ 9223372036854775807 → q ((Nat.gcd g l : Nat) : Int) H → FX11_commonDivisor_15 d K H q (g : Int) (l : Int) (i : Int) := by
  intro n
  induction n with
  | zero =>
    intro g l i hl _ hi hg hq
    have e : l = 0 := by simp at hl; exact hl
    subst e
    rw [Nat.gcd_zero_right] at hq
    exact bX11_commonDivisor_15 ⟨fun _ => hq, fun _ => ⟨fun _ => hq, fun h => absurd rfl h⟩⟩
  | succ n ih =>
    intro g l i hl hn hi hg hq
    by_cases h0 : l = 0
    · subst h0
      rw [Nat.gcd_zero_right] at hq
      exact bX11_commonDivisor_15 ⟨fun _ => hq, fun _ => ⟨fun _ => hq, fun h => absurd rfl h⟩⟩
    · have hlb : l < 2 ^ 45 := Nat.lt_of_lt_of_le hl (Nat.pow_le_pow_right (by decide) (by omega))
      have e45 : (2 : Nat) ^ 45 = 35184372088832 := by decide
      rw [e45] at hlb
      have hm := Nat.mod_lt g (show 0 < l by omega)
      have hq1 : q ((Nat.gcd l (g % l) : Nat) : Int) H := by rw [Nat.gcd_comm l (g % l), ← Nat.gcd_rec, Nat.gcd_comm]; exact hq
      refine bX11_commonDivisor_15 ⟨fun h => absurd (by omega) h, fun _ => ⟨fun h => absurd (by omega) h0, fun _ => ?_⟩⟩
      rw [tmod_pos (by omega), ← Int.natCast_emod]
      refine ⟨by omega, ⟨by omega, by omega⟩, ⟨by omega, by omega⟩, ?_⟩
      by_cases h1 : g % l = 0
      · rw [h1] at hq1 ⊢
        rw [Nat.gcd_zero_right] at hq1
        exact bX11_commonDivisor_15 ⟨fun _ => hq1, fun _ => ⟨fun _ => hq1, fun h => absurd rfl h⟩⟩
      · have hh := half_mod (show 0 < g % l by omega) hm
        have hm2 := Nat.mod_lt l (show 0 < g % l by omega)
        have hq2 : q ((Nat.gcd (g % l) (l % (g % l)) : Nat) : Int) H := by rw [Nat.gcd_comm (g % l) (l % (g % l)), ← Nat.gcd_rec, Nat.gcd_comm]; exact hq1
        refine bX11_commonDivisor_15 ⟨fun h => absurd (by omega) h, fun _ => ⟨fun h => absurd (by omega) h1, fun _ => ?_⟩⟩
        rw [tmod_pos (by omega), ← Int.natCast_emod]
        refine ⟨by omega, ⟨by omega, by omega⟩, ⟨by omega, by omega⟩, ?_⟩
        exact ih (g % l) (l % (g % l)) (i + 2) (by rw [Nat.pow_succ] at hl; omega) (by omega) (by omega) (by omega) hq2
theorem sp_gcd {d : Nat} {K : Shp} {H : Mem} {a b : Int} (ha0 : -9223372036854775807 ≤ a) (ha1 : a ≤ 9223372036854775807) (hb0 : -35184372088832 < b) (hb1 : b < 35184372088832) : Cl mX11_commonDivisor (d + 1) [(1, a), (1, b)] K H (fun y H' => y = ((Int.gcd a b : Nat) : Int) ∧ H' = H) := by
  refine eX11_commonDivisor fun _ _ _ => ?_
  refine bX11_commonDivisor_0 ?_
  have e1 : max a (-a) = ((a.natAbs : Nat) : Int) := by omega
  have e2 : max b (-b) = ((b.natAbs : Nat) : Int) := by omega
  rw [e1, e2]
  refine ⟨⟨by omega, by omega⟩, ⟨by omega, by omega⟩, ?_⟩
  have e45 : (2 : Nat) ^ 45 = 35184372088832 := by decide
  exact gcd_loop 45 a.natAbs b.natAbs 0 (by omega) (by omega) (by omega) (by omega) ⟨rfl, rfl⟩
theorem sp_X5_put {d : Nat} {K : Shp} {H : Mem} {a : Nat} {x y : Int} (ha : K[a]? = some (5, 2)) : Cv mX5_put d [(2, (a : Int)), (1, x), (1, y)] K H (fun H' => ∃ g, H' = upA H a g ∧ g 0 = x ∧ g 1 = y) := by
  refine eX5_put fun _ _ _ => ?_
  refine bX5_put_0 ?_
  simp only [Int.toNat_natCast]
  refine ⟨by omega, ha, ?_⟩
  rintro _ rfl _ rfl
  refine ⟨up1 (up1 (H a) 0 x) 1 y, by rw [upA_upA, upA_same], ?_, ?_⟩ <;> simp [up1]
theorem sp_X5_shorten {d : Nat} {K : Shp} {H : Mem} {a : Nat} (ha : K[a]? = some (5, 2)) (h0 : 0 < H a 1) (h1 : H a 1 < 35184372088832) (h2 : -9223372036854775807 ≤ H a 0) (h3 : H a 0 ≤ 9223372036854775807) : Cv mX5_shorten (d + 2) [(2, (a : Int))] K H (fun H' => ∃ g, H' = upA H a g ∧ Red (g 0) (g 1) ∧ g 0 * H a 1 = H a 0 * g 1 ∧ g 1 ≤ H a 1 ∧ (g 0).natAbs ≤ (H a 0).natAbs) := by
  refine eX5_shorten fun _ => ?_
  refine bX5_shorten_0 ?_
  simp only [Int.toNat_natCast]
  refine ⟨by omega, ha, Cl.to (sp_gcd h2 h3 (by omega) h1) ?_⟩
  generalize hT : H a 0 = t at *
  generalize hB : H a 1 = b at *
  have hg0 : 0 < Int.gcd t b := Int.gcd_pos_of_ne_zero_right t (by omega)
  obtain ⟨t', et⟩ := Int.gcd_dvd_left (a := t) (b := b)
  obtain ⟨b', eb⟩ := Int.gcd_dvd_right (a := t) (b := b)
  have hred : Int.gcd t' b' = 1 := by
    have h := Int.gcd_mul_left (((Int.gcd t b : Nat) : Int)) t' b'
    rw [← et, ← eb] at h
    rw [Int.natAbs_natCast] at h
    have h5 : Int.gcd t b * 1 = Int.gcd t b * Int.gcd t' b' := by omega
    exact (Nat.eq_of_mul_eq_mul_left hg0 h5).symm
  generalize hG : Int.gcd t b = G at *
  have hb' : 0 < b' := by
    rcases Int.lt_or_le 0 b' with q | q
    · exact q
    · have : (G : Int) * b' ≤ (G : Int) * 0 := Int.mul_le_mul_of_nonneg_left q (by omega)
      omega
  refine ⟨fun h => ?_, fun h => ?_⟩
  · have e1 : G = 1 := by omega
    subst e1
    refine ⟨H a, (upA_self H a).symm, ⟨by omega, by rw [hT, hB]; exact hG⟩, by rw [hT, hB], by omega, by rw [hT]; omega⟩
  · have d1 : Int.tdiv t (G : Int) = t' := by rw [et]; exact Int.mul_tdiv_cancel_left _ (by omega)
    have d2 : Int.tdiv b (G : Int) = b' := by rw [eb]; exact Int.mul_tdiv_cancel_left _ (by omega)
    have n1 : t'.natAbs ≤ t.natAbs := by
      have : t.natAbs = G * t'.natAbs := by rw [et, Int.natAbs_mul, Int.natAbs_natCast]
      have h6 : 1 * t'.natAbs ≤ G * t'.natAbs := Nat.mul_le_mul_right _ (by omega)
      omega
    have n2 : b' ≤ b := by
      have h6 : 1 * b' ≤ (G : Int) * b' := Int.mul_le_mul_of_nonneg_right (by omega) (by omega)
      omega
    rw [d1]
    refine ⟨by omega, ⟨by omega, by omega⟩, ?_⟩
    rintro _ rfl
    rw [upA_same, show up1 (H a) 0 t' 1 = b by rw [up1_ne (by decide)]; exact hB, d2]
    refine ⟨⟨by omega, by omega⟩, ?_⟩
    rintro _ rfl
    refine ⟨up1 (up1 (H a) 0 t') 1 b', by rw [upA_upA], ?_⟩
    have z0 : up1 (up1 (H a) 0 t') 1 b' 0 = t' := by simp [up1]
    have z1 : up1 (up1 (H a) 0 t') 1 b' 1 = b' := by simp [up1]
    rw [z0, z1]
    refine ⟨⟨hb', hred⟩, ?_, n2, n1⟩
    clear d1 d2 z0 z1
    rw [et, eb]
    grind
theorem sp_X5_scale {d : Nat} {K : Shp} {H : Mem} {a : Nat} {x : Int} (ha : K[a]? = some (5, 2)) (h0 : 0 < H a 1) (h1 : H a 1 < 35184372088832) (h2 : -9223372036854775807 ≤ H a 0 * x) (h3 : H a 0 * x ≤ 9223372036854775807) : Cv mX5_scale (d + 3) [(2, (a : Int)), (1, x)] K H (fun H' => ∃ g, H' = upA H a g ∧ Red (g 0) (g 1) ∧ g 0 * H a 1 = H a 0 * x * g 1 ∧ g 1 ≤ H a 1 ∧ (g 0).natAbs ≤ (H a 0 * x).natAbs) := by
  refine eX5_scale fun _ _ => ?_
  refine bX5_scale_0 ?_
  simp only [Int.toNat_natCast]
  refine ⟨by omega, ha, ⟨by omega, by omega⟩, ?_⟩
  rintro _ rfl
  have e0 : upA H a (up1 (H a) 0 (H a 0 * x)) a 0 = H a 0 * x := by rw [upA_same, up1_same]
  have e1 : upA H a (up1 (H a) 0 (H a 0 * x)) a 1 = H a 1 := by rw [upA_same, up1_ne (by decide)]
  refine (sp_X5_shorten (d := d) ha (by rw [e1]; exact h0) (by rw [e1]; exact h1) (by rw [e0]; exact h2) (by rw [e0]; exact h3)).mono ?_
  rintro _ ⟨g, rfl, h4, h5, h6, h7⟩
  rw [e0, e1] at h5
  rw [e1] at h6
  rw [e0] at h7
  exact ⟨g, upA_upA _ _ _ _, h4, h5, h6, h7⟩
theorem sp_X5_plus {d : Nat} {K : Shp} {H : Mem} {a b : Nat} (ha : K[a]? = some (5, 2)) (hb : K[b]? = some (5, 2)) (hab : b ≠ a) (h0 : 0 < H a 1) (h1 : 0 < H b 1) (hp : H a 1 * H b 1 < 35184372088832) (q1 : inL (H a 0 * H b 1)) (q2 : inL (H b 0 * H a 1)) (h2 : -9223372036854775807 ≤ H a 0 * H b 1 + H b 0 * H a 1) (h3 : H a 0 * H b 1 + H b 0 * H a 1 ≤ 9223372036854775807) :
    Cv mX5_plus (d + 3) [(2, (a : Int)), (2, (b : Int))] K H (fun H' => ∃ g, H' = upA H a g ∧ Red (g 0) (g 1) ∧ g 0 * (H a 1 * H b 1) = (H a 0 * H b 1 + H b 0 * H a 1) * g 1 ∧ g 1 ≤ H a 1 * H b 1 ∧ (g 0).natAbs ≤ (H a 0 * H b 1 + H b 0 * H a 1).natAbs) := by
  have hpos : 0 < H a 1 * H b 1 := Int.mul_pos h0 h1
  refine eX5_plus fun _ => ?_
  refine bX5_plus_0 ?_
  simp only [Int.toNat_natCast]
  refine ⟨by omega, ha, by omega, hb, q1, q2, ⟨by omega, by omega⟩, ?_⟩
  generalize H a 0 * H b 1 + H b 0 * H a 1 = t at *
  rintro _ rfl
  have z1 : upA H a (up1 (H a) 0 t) a 1 = H a 1 := by rw [upA_same, up1_ne (by decide)]
  have z2 : upA H a (up1 (H a) 0 t) b = H b := upA_ne hab
  rw [z1, z2, upA_same]
  refine ⟨⟨by omega, by omega⟩, ?_⟩
  rintro _ rfl
  rw [upA_upA]
  have e0 : upA H a (up1 (up1 (H a) 0 t) 1 (H a 1 * H b 1)) a 0 = t := by rw [upA_same, up1_ne (by decide), up1_same]
  have e1 : upA H a (up1 (up1 (H a) 0 t) 1 (H a 1 * H b 1)) a 1 = H a 1 * H b 1 := by rw [upA_same, up1_same]
  refine (sp_X5_shorten (d := d) ha (by rw [e1]; exact hpos) (by rw [e1]; exact hp) (by rw [e0]; exact h2) (by rw [e0]; exact h3)).mono ?_
  rintro _ ⟨g, rfl, h4, h5, h6, h7⟩
  rw [e0, e1] at h5
  rw [e1] at h6
  rw [e0] at h7
  exact ⟨g, upA_upA _ _ _ _, h4, h5, h6, h7⟩
theorem sp_X5_isUnder {d : Nat} {K : Shp} {H : Mem} {a b : Nat} (ha : K[a]? = some (5, 2)) (hb : K[b]? = some (5, 2)) (q1 : inL (H a 0 * H b 1)) (q2 : inL (H b 0 * H a 1)) : Ci mX5_isUnder d [(2, (a : Int)), (2, (b : Int))] K H (fun y H' => y = (if H a 0 * H b 1 < H b 0 * H a 1 then 1 else 0) ∧ H' = H) := by
  refine eX5_isUnder fun _ => ?_
  refine bX5_isUnder_0 ?_
  simp only [Int.toNat_natCast]
  refine ⟨by omega, ha, by omega, hb, q1, q2, fun h => ⟨by rw [if_neg h], trivial⟩, fun h => ⟨by rw [if_pos h], trivial⟩⟩
