/-! RodBeam$Whole and Arrays.fill: what their methods do -/
theorem ne_kind {K : Shp} {a b : Nat} {p q : Nat × Nat} (ha : K[a]? = some p) (hb : K[b]? = some q) (h : p ≠ q) : a ≠ b := by
  rintro rfl; rw [ha] at hb; exact h (Option.some.inj hb)
def WhK (K : Shp) (H : Mem) (a : Nat) : Prop := K[a]? = some (10, 1) ∧ K[a + 1]? = some (21, 6) ∧ H a 0 = ((a + 1 : Nat) : Int)
theorem WhK.keep {K : Shp} {H : Mem} {a b n : Nat} {f : Nat → Int} (h : WhK K H a) (hb : K[b]? = some (21, n)) : WhK K (upA H b f) a :=
  ⟨h.1, h.2.1, by rw [upA_ne (ne_kind h.1 hb (by simp))]; exact h.2.2⟩
/-- Arrays.fill of ints -/
theorem sp_filli {d : Nat} {K : Shp} {H : Mem} {a n : Nat} {x : Int} (hk : K[a]? = some (20, n)) (hn : n < 2147483648) : Cv mJ7_fill_53178 d [(2, (a : Int)), (0, x)] K H (fun H' => ∃ f, H' = upA H a f ∧ ∀ j, j < n → f j = x) := by
  refine eJ7_fill_53178 fun _ _ => ?_
  refine bJ7_fill_53178_0 ?_
  simp only [Int.toNat_natCast]
  refine ⟨by omega, n, hk, hn, ?_⟩
  have loop : ∀ (m i : Nat), i + m = n → ∀ (f : Nat → Int), (∀ j, j < i → f j = x) → FJ7_fill_53178_5 d K (upA H a f) (fun H' => ∃ f, H' = upA H a f ∧ ∀ j, j < n → f j = x) (a : Int) x (i : Int) (n : Int) := by
    intro m
    induction m with
    | zero =>
      intro i hi f hf
      exact bJ7_fill_53178_5 ⟨fun _ => ⟨f, rfl, fun j hj => hf j (by omega)⟩, fun h => absurd h (by omega)⟩
    | succ m ih =>
      intro i hi f hf
      refine bJ7_fill_53178_5 ⟨fun h => absurd (by omega) h, fun _ => ?_⟩
      simp only [Int.toNat_natCast, upA_same, upA_upA]
      refine ⟨by omega, n, hk, by omega, by omega, ?_⟩
      rintro H1 rfl
      refine ⟨⟨by omega, by omega⟩, ?_⟩
      exact ih (i + 1) (by omega) _ (fun j hj => by
        by_cases e : j = i
        · rw [e, up1_same]
        · rw [up1_ne e]; exact hf j (by omega))
  have := loop n 0 (by omega) (H a) (fun j hj => absurd hj (by omega))
  rw [upA_self] at this
  exact this
/-- Arrays.fill of longs -/
theorem sp_filll {d : Nat} {K : Shp} {H : Mem} {a n : Nat} {x : Int} (hk : K[a]? = some (21, n)) (hn : n < 2147483648) : Cv mJ7_fill_d0a16 d [(2, (a : Int)), (1, x)] K H (fun H' => ∃ f, H' = upA H a f ∧ ∀ j, j < n → f j = x) := by
  refine eJ7_fill_d0a16 fun _ _ => ?_
  refine bJ7_fill_d0a16_0 ?_
  simp only [Int.toNat_natCast]
  refine ⟨by omega, n, hk, hn, ?_⟩
  have loop : ∀ (m i : Nat), i + m = n → ∀ (f : Nat → Int), (∀ j, j < i → f j = x) → FJ7_fill_d0a16_6 d K (upA H a f) (fun H' => ∃ f, H' = upA H a f ∧ ∀ j, j < n → f j = x) (a : Int) x (i : Int) (n : Int) := by
    intro m
    induction m with
    | zero =>
      intro i hi f hf
      exact bJ7_fill_d0a16_6 ⟨fun _ => ⟨f, rfl, fun j hj => hf j (by omega)⟩, fun h => absurd h (by omega)⟩
    | succ m ih =>
      intro i hi f hf
      refine bJ7_fill_d0a16_6 ⟨fun h => absurd (by omega) h, fun _ => ?_⟩
      simp only [Int.toNat_natCast, upA_same, upA_upA]
      refine ⟨by omega, n, hk, by omega, by omega, ?_⟩
      rintro H1 rfl
      refine ⟨⟨by omega, by omega⟩, ?_⟩
      exact ih (i + 1) (by omega) _ (fun j hj => by
        by_cases e : j = i
        · rw [e, up1_same]
        · rw [up1_ne e]; exact hf j (by omega))
  have := loop n 0 (by omega) (H a) (fun j hj => absurd hj (by omega))
  rw [upA_self] at this
  exact this
theorem Dg.up {f : Nat → Int} {i : Nat} {x : Int} (h : Dg f i) (h0 : 0 ≤ x) (h1 : x < 1000000000) : Dg (up1 f i x) (i + 1) := by
  intro j hj
  by_cases e : j = i
  · rw [e, up1_same]; exact ⟨h0, h1⟩
  · rw [up1_ne e]; exact h j (by omega)
theorem val_step {f : Nat → Int} {i : Nat} {x : Int} : val (up1 f i x) (i + 1) = val f i + x * 1000000000 ^ i := by
  simp only [val]; rw [val_up (Nat.le_refl i), up1_same]
theorem sp_X10_put {d : Nat} {K : Shp} {H : Mem} {a : Nat} {v : Int} (hw : WhK K H a) (h0 : 0 ≤ v) (h1 : v ≤ 9223372036854775807) : Cv mX10_put d [(2, (a : Int)), (1, v)] K H (fun H' => ∃ f, H' = upA H (a + 1) f ∧ Dig f v) := by
  obtain ⟨k1, k2, r⟩ := hw
  refine eX10_put fun _ _ => ?_
  refine bX10_put_0 ?_
  have loop : ∀ (n i : Nat), i + n = 6 → ∀ (f : Nat → Int) (rest : Int), Dg f i → val f i + rest * 1000000000 ^ i = v → 0 ≤ rest → rest ≤ 9223372036854775807 → FX10_put_5 d K (upA H (a + 1) f) (fun H' => ∃ f, H' = upA H (a + 1) f ∧ Dig f v) (a : Int) rest (i : Int) := by
    intro n
    induction n with
    | zero =>
      intro i hi f rest hd hv hr hr2
      have e : i = 6 := by omega
      subst e
      refine bX10_put_5 ⟨fun _ => ⟨f, rfl, hd, ?_⟩, fun h => absurd h (by omega)⟩
      have h2 := val_nonneg hd
      omega
    | succ n ih =>
      intro i hi f rest hd hv hr hr2
      refine bX10_put_5 ⟨fun h => absurd (by omega) h, fun _ => ?_⟩
      have e1 : upA H (a + 1) f a = H a := upA_ne (by omega)
      have e2 : ((a + 1 : Nat) : Int).toNat = a + 1 := Int.toNat_natCast _
      simp only [Int.toNat_natCast, e1, r, upA_same, upA_upA]
      rw [tmod_pos hr, tdiv_pos hr]
      refine ⟨by omega, k1, ⟨by omega, by omega⟩, by omega, 6, k2, by omega, by omega, ?_⟩
      rintro H1 rfl
      refine ⟨⟨by omega, by omega⟩, ⟨by omega, by omega⟩, ?_⟩
      refine ih (i + 1) (by omega) _ _ (hd.up (by omega) (by omega)) ?_ (by omega) (by omega)
      rw [val_step, ← hv]
      have e3 : (1000000000 : Int) ^ (i + 1) = 1000000000 ^ i * 1000000000 := Int.pow_succ _ _
      have e4 : rest = 1000000000 * (rest / 1000000000) + rest % 1000000000 := (Int.mul_ediv_add_emod rest 1000000000).symm
      generalize (1000000000 : Int) ^ i = p at *
      generalize rest / 1000000000 = a1 at *
      generalize rest % 1000000000 = a2 at *
      subst e4
      rw [e3]
      grind
  have := loop 6 0 (by omega) (H (a + 1)) v (fun j hj => absurd hj (by omega)) (by simp [val]) h0 h1
  rw [upA_self] at this
  exact this
theorem sp_X10_copy {d : Nat} {K : Shp} {H : Mem} {a b : Nat} {v : Int} (ha : WhK K H a) (hb : WhK K H b) (hv : Dig (H (b + 1)) v) : Cv mX10_copy (d + 1) [(2, (a : Int)), (2, (b : Int))] K H (fun H' => ∃ f, H' = upA H (a + 1) f ∧ Dig f v) := by
  obtain ⟨k1, k2, r⟩ := ha
  obtain ⟨m1, m2, t⟩ := hb
  refine eX10_copy fun _ => ?_
  refine bX10_copy_0 ?_
  simp only [Int.toNat_natCast, r, t]
  refine ⟨by omega, m1, by omega, k1, by omega, 6, m2, by omega, 6, k2, by omega, by omega, ?_⟩
  rintro H1 rfl
  refine ⟨_, rfl, ?_⟩
  have e : ∀ j, j < 6 → va_cpy (H (b + 1)) (H (a + 1)) (0 : Int).toNat (0 : Int).toNat (6 : Int).toNat j = H (b + 1) j := by
    intro j hj
    show (if 0 ≤ j ∧ j < 0 + 6 then H (b + 1) (0 + (j - 0)) else H (a + 1) j) = _
    rw [if_pos ⟨by omega, by omega⟩]
    congr 1
    omega
  exact ⟨fun j hj => by rw [e j hj]; exact hv.1 j hj, by rw [val_congr e]; exact hv.2⟩
theorem sp_X10_plus {d : Nat} {K : Shp} {H : Mem} {a b : Nat} {x y : Int} (ha : WhK K H a) (hb : WhK K H b) (hab : a ≠ b) (hx : Dig (H (a + 1)) x) (hy : Dig (H (b + 1)) y) (hs : x + y < 1000000000000000000000000000000000000000000000000000000) : Cv mX10_plus d [(2, (a : Int)), (2, (b : Int))] K H (fun H' => ∃ f, H' = upA H (a + 1) f ∧ Dig f (x + y)) := by
  obtain ⟨k1, k2, r⟩ := ha
  obtain ⟨m1, m2, t⟩ := hb
  have hba : b ≠ a + 1 := ne_kind m1 k2 (by simp)
  refine eX10_plus fun _ => ?_
  refine bX10_plus_0 ?_
  have loop : ∀ (n i : Nat), i + n = 6 → ∀ (f : Nat → Int) (c : Int), Dg f i → (∀ j, i ≤ j → f j = H (a + 1) j) → val f i + c * 1000000000 ^ i = val (H (a + 1)) i + val (H (b + 1)) i → 0 ≤ c → c ≤ 1 → FX10_plus_5 d K (upA H (a + 1) f) (fun H' => ∃ f, H' = upA H (a + 1) f ∧ Dig f (x + y)) (a : Int) (b : Int) c (i : Int) := by
    intro n
    induction n with
    | zero =>
      intro i hi f c hd hf hv hc0 hc1
      have e : i = 6 := by omega
      subst e
      rw [hx.2, hy.2] at hv
      refine bX10_plus_5 ⟨fun _ => ⟨f, rfl, hd, ?_⟩, fun h => absurd h (by omega)⟩
      have h2 := val_nonneg hd
      omega
    | succ n ih =>
      intro i hi f c hd hf hv hc0 hc1
      refine bX10_plus_5 ⟨fun h => absurd (by omega) h, fun _ => ?_⟩
      have e1 : upA H (a + 1) f a = H a := upA_ne (by omega)
      have e2 : upA H (a + 1) f b = H b := upA_ne hba
      have e3 : upA H (a + 1) f (b + 1) = H (b + 1) := upA_ne (by omega)
      have g1 := hx.1 i (by omega)
      have g2 := hy.1 i (by omega)
      simp only [Int.toNat_natCast, e1, e2, e3, r, t, upA_same, upA_upA]
      rw [hf i (Nat.le_refl i)]
      generalize hA : H (a + 1) i = A at *
      generalize hB : H (b + 1) i = B at *
      rw [tmod_pos (show (0 : Int) ≤ A + B + c by omega), tdiv_pos (show (0 : Int) ≤ A + B + c by omega)]
      refine ⟨by omega, k1, by omega, 6, k2, by omega, by omega, by omega, m1, by omega, 6, m2, by omega, ⟨by omega, by omega⟩, ⟨by omega, by omega⟩, ⟨by omega, by omega⟩, ?_⟩
      rintro H1 rfl
      refine ⟨⟨by omega, by omega⟩, ⟨by omega, by omega⟩, ?_⟩
      refine ih (i + 1) (by omega) _ _ (hd.up (by omega) (by omega)) (fun j hj => by rw [up1_ne (by omega)]; exact hf j (by omega)) ?_ (by omega) (by omega)
      rw [val_step]
      simp only [val]
      rw [hA, hB]
      have e5 : (1000000000 : Int) ^ (i + 1) = 1000000000 ^ i * 1000000000 := Int.pow_succ _ _
      have e4 : A + B + c = 1000000000 * ((A + B + c) / 1000000000) + (A + B + c) % 1000000000 := (Int.mul_ediv_add_emod _ _).symm
      generalize (1000000000 : Int) ^ i = p at *
      generalize (A + B + c) / 1000000000 = a1 at *
      generalize (A + B + c) % 1000000000 = a2 at *
      rw [e5]
      grind
  have := loop 6 0 (by omega) (H (a + 1)) 0 (fun j hj => absurd hj (by omega)) (fun j _ => rfl) (by simp [val]) (by omega) (by omega)
  rw [upA_self] at this
  exact this
theorem ring_prod_end {vf c m va ai lo hi p p2 y : Int} (hy : y = lo + p2 * hi) (hv : vf + c * (p * p2) + m * (p * p2) = va * y + ai * lo * p) : vf + (m + c + ai * hi) * (p * p2) = (va + ai * p) * y := by
  subst hy
  grind
theorem ring_prod_step {vf c m va A B F lo z1 z2 w1 w2 p6 y : Int} (e : F + A * B + c = 1000000000 * z1 + z2) (hv : vf + c * (w1 * w2) + m * p6 = va * y + A * lo * w1) : vf + (z2 - F) * (w1 * w2) + z1 * (w1 * w2 * 1000000000) + m * p6 = va * y + A * (lo + B * w2) * w1 := by
  have e2 : z2 = F + A * B + c - 1000000000 * z1 := by omega
  subst e2
  grind
theorem sp_X10_product {d : Nat} {K : Shp} {H : Mem} {t a b : Nat} {x y : Int} (ht : WhK K H t) (ha : WhK K H a) (hb : WhK K H b) (hta : t ≠ a) (htb : t ≠ b) (hx : Dig (H (a + 1)) x) (hy : Dig (H (b + 1)) y) (hs : x * y < 1000000000000000000000000000000000000000000000000000000) : Cv mX10_product (d + 1) [(2, (t : Int)), (2, (a : Int)), (2, (b : Int))] K H (fun H' => ∃ f, H' = upA H (t + 1) f ∧ Dig f (x * y)) := by
  obtain ⟨k1, k2, r⟩ := ht
  obtain ⟨m1, m2, s⟩ := ha
  obtain ⟨j1, j2, u⟩ := hb
  have q1 : a ≠ t + 1 := ne_kind m1 k2 (by simp)
  have q2 : b ≠ t + 1 := ne_kind j1 k2 (by simp)
  refine eX10_product fun _ => ?_
  refine bX10_product_0 ?_
  simp only [Int.toNat_natCast, r]
  refine ⟨by omega, k1, (sp_filll k2 (by decide)).mono ?_⟩
  rintro H1 ⟨f0, rfl, hf0⟩
  have hxy : 0 ≤ x * y := Int.mul_nonneg hx.nonneg hy.nonneg
  have outer : ∀ (n i : Nat), i + n = 6 → ∀ (f : Nat → Int) (m : Int), Dg f 6 → val f 6 + m * 1000000000 ^ 6 = val (H (a + 1)) i * y → FX10_product_10 d K (upA H (t + 1) f) (fun H' => ∃ f, H' = upA H (t + 1) f ∧ Dig f (x * y)) (t : Int) (a : Int) (b : Int) (i : Int) := by
    intro n
    induction n with
    | zero =>
      intro i hi f m hd hv
      have e : i = 6 := by omega
      subst e
      rw [hx.2] at hv
      refine bX10_product_10 ⟨fun _ => ⟨f, rfl, hd, ?_⟩, fun h => absurd h (by omega)⟩
      have h2 := val_nonneg hd
      have h3 := val_lt hd
      have h4 : m = 0 := by
        have e6 : (1000000000 : Int) ^ 6 = 1000000000000000000000000000000000000000000000000000000 := by decide
        rw [e6] at hv h3
        omega
      rw [h4] at hv
      omega
    | succ n ih =>
      intro i hi f m hd hv
      refine bX10_product_10 ⟨fun h => absurd (by omega) h, fun _ => ?_⟩
      have inner : ∀ (n2 k : Nat), i + k + n2 = 6 → ∀ (f : Nat → Int) (c m : Int), Dg f 6 → 0 ≤ c → c < 1000000000 → val f 6 + c * 1000000000 ^ (i + k) + m * 1000000000 ^ 6 = val (H (a + 1)) i * y + H (a + 1) i * val (H (b + 1)) k * 1000000000 ^ i → FX10_product_22 d K (upA H (t + 1) f) (fun H' => ∃ f, H' = upA H (t + 1) f ∧ Dig f (x * y)) (t : Int) (a : Int) (b : Int) (i : Int) c (k : Int) := by
        intro n2
        induction n2 with
        | zero =>
          intro k hk f c m hd hc0 hc1 hv
          have ek : i + k = 6 := by omega
          refine bX10_product_22 ⟨⟨by omega, by omega⟩, fun _ => ⟨⟨by omega, by omega⟩, ?_⟩, fun h => absurd h (by omega)⟩
          have hsp := val_split (f := H (b + 1)) (m := k) (n := i)
          rw [show k + i = 6 by omega, hy.2] at hsp
          refine ih (i + 1) (by omega) f (m + c + H (a + 1) i * val (fun j => H (b + 1) (k + j)) i) hd ?_
          rw [ek] at hv
          have e7 : (1000000000 : Int) ^ 6 = 1000000000 ^ i * 1000000000 ^ k := by rw [← Int.pow_add, ek]
          simp only [val]
          rw [e7] at hv ⊢
          exact ring_prod_end hsp hv
        | succ n2 ih2 =>
          intro k hk f c m hd hc0 hc1 hv
          refine bX10_product_22 ⟨⟨by omega, by omega⟩, fun h => absurd (by omega) h, fun _ => ?_⟩
          have e1 : upA H (t + 1) f t = H t := upA_ne (by omega)
          have e2 : upA H (t + 1) f a = H a := upA_ne q1
          have e3 : upA H (t + 1) f b = H b := upA_ne q2
          have e4 : upA H (t + 1) f (a + 1) = H (a + 1) := upA_ne (by omega)
          have e5 : upA H (t + 1) f (b + 1) = H (b + 1) := upA_ne (by omega)
          have e6 : ((i : Int) + (k : Int)).toNat = i + k := by omega
          have g1 := hx.1 i (by omega)
          have g2 := hy.1 k (by omega)
          have g3 := hd (i + k) (by omega)
          simp only [Int.toNat_natCast, e1, e2, e3, e4, e5, e6, r, s, u, upA_same, upA_upA]
          generalize hA : H (a + 1) i = A at *
          generalize hB : H (b + 1) k = B at *
          generalize hF : f (i + k) = F at *
          have p1 : 0 ≤ A * B := Int.mul_nonneg g1.1 g2.1
          have p2 : A * B ≤ 999999999 * 999999999 := Int.mul_le_mul (by omega) (by omega) g2.1 (by omega)
          rw [tmod_pos (show (0 : Int) ≤ F + A * B + c by omega), tdiv_pos (show (0 : Int) ≤ F + A * B + c by omega)]
          refine ⟨by omega, k1, by omega, 6, k2, by omega, by omega, by omega, m1, by omega, 6, m2, by omega, by omega, by omega, j1, by omega, 6, j2, by omega, by omega, ⟨by omega, by omega⟩, ⟨by omega, by omega⟩, ⟨by omega, by omega⟩, ⟨by omega, by omega⟩, ?_⟩
          rintro H1 rfl
          refine ⟨⟨by omega, by omega⟩, ⟨by omega, by omega⟩, ?_⟩
          refine ih2 (k + 1) (by omega) _ _ m (hd.setd (by omega) (by omega)) (by omega) (by omega) ?_
          rw [val_set (show i + k < 6 by omega), hF]
          simp only [val]
          rw [hB]
          have e8 : (1000000000 : Int) ^ (i + (k + 1)) = 1000000000 ^ (i + k) * 1000000000 := Int.pow_succ _ _
          have e9 : (1000000000 : Int) ^ (i + k) = 1000000000 ^ i * 1000000000 ^ k := Int.pow_add _ _ _
          have e10 : F + A * B + c = 1000000000 * ((F + A * B + c) / 1000000000) + (F + A * B + c) % 1000000000 := (Int.mul_ediv_add_emod _ _).symm
          rw [e8]
          rw [e9] at hv ⊢
          exact ring_prod_step e10 hv
      exact inner (6 - i) 0 (by omega) f 0 m hd (by omega) (by omega) (by simp only [val]; rw [Int.zero_mul, Int.mul_zero, Int.zero_mul, Int.add_zero, Int.add_zero]; exact hv)
  exact outer 6 0 (by omega) f0 0 (fun j hj => by rw [hf0 j hj]; omega) (by
    have : val f0 6 = 0 := by simp [val, hf0]
    rw [this]; simp [val])
theorem sp_X10_restBy {d : Nat} {K : Shp} {H : Mem} {a : Nat} {x g : Int} (ha : WhK K H a) (hx : Dig (H (a + 1)) x) (hg : 0 < g) (hg2 : g ≤ 9000000000) : Cl mX10_restBy d [(2, (a : Int)), (1, g)] K H (fun y H' => y = x % g ∧ H' = H) := by
  obtain ⟨k1, k2, r⟩ := ha
  refine eX10_restBy fun _ _ => ?_
  refine bX10_restBy_0 ?_
  have loop : ∀ (i : Nat) (rest : Int), i ≤ 6 → rest = hiv (H (a + 1)) i % g → FX10_restBy_5 d K H (fun y H' => y = x % g ∧ H' = H) (a : Int) g rest ((i : Int) - 1) := by
    intro i
    induction i with
    | zero =>
      intro rest _ hr
      refine bX10_restBy_5 ⟨fun _ => ⟨?_, rfl⟩, fun h => absurd (by omega) h⟩
      rw [hr, hiv_0, hx.2]
    | succ i ih =>
      intro rest hi hr
      have hr0 : 0 ≤ rest := by rw [hr]; exact Int.emod_nonneg _ (by omega)
      have hr1 : rest < g := by rw [hr]; exact Int.emod_lt_of_pos _ hg
      have g1 := hx.1 i (by omega)
      have ei : ((i + 1 : Nat) : Int) - 1 = (i : Int) := by omega
      rw [ei]
      refine bX10_restBy_5 ⟨fun h => absurd h (by omega), fun _ => ⟨fun h => absurd h (by omega), fun _ => ?_⟩⟩
      simp only [Int.toNat_natCast, r]
      have hst := hiv_step (f := H (a + 1)) (i := i) (by omega)
      generalize hA : H (a + 1) i = A at *
      have hm := Int.emod_nonneg (rest * 1000000000 + A) (show g ≠ 0 by omega)
      have hm2 := Int.emod_lt_of_pos (rest * 1000000000 + A) hg
      rw [tmod_pos (show (0 : Int) ≤ rest * 1000000000 + A by omega)]
      refine ⟨⟨by omega, by omega⟩, by omega, k1, by omega, 6, k2, by omega, by omega, ⟨by omega, by omega⟩, by omega, ⟨by omega, by omega⟩, ⟨by omega, by omega⟩, ?_⟩
      refine ih _ (by omega) ?_
      rw [hst, hr]
      rw [Int.add_emod, Int.mul_emod, Int.emod_emod_of_dvd _ (Int.dvd_refl g), ← Int.mul_emod, ← Int.add_emod]
  exact loop 6 0 (by omega) (by rw [hiv_6]; simp)
theorem sp_X10_divide {d : Nat} {K : Shp} {H : Mem} {a : Nat} {x g : Int} (ha : WhK K H a) (hx : Dig (H (a + 1)) x) (hg : 0 < g) (hg2 : g ≤ 9000000000) : Cv mX10_divide d [(2, (a : Int)), (1, g)] K H (fun H' => ∃ f, H' = upA H (a + 1) f ∧ Dig f (x / g)) := by
  obtain ⟨k1, k2, r⟩ := ha
  refine eX10_divide fun _ _ => ?_
  refine bX10_divide_0 ?_
  have loop : ∀ (i : Nat) (f : Nat → Int) (rest : Int), i ≤ 6 → 0 ≤ rest → rest < g → (∀ j, j < i → f j = H (a + 1) j) → (∀ j, i ≤ j → j < 6 → 0 ≤ f j ∧ f j < 1000000000) → hiv f i * g + rest = hiv (H (a + 1)) i → FX10_divide_5 d K (upA H (a + 1) f) (fun H' => ∃ f, H' = upA H (a + 1) f ∧ Dig f (x / g)) (a : Int) g rest ((i : Int) - 1) := by
    intro i
    induction i with
    | zero =>
      intro f rest _ hr0 hr1 hf hd hv
      refine bX10_divide_5 ⟨fun _ => ⟨f, rfl, fun j hj => hd j (by omega) hj, ?_⟩, fun h => absurd (by omega) h⟩
      rw [hiv_0, hiv_0, hx.2] at hv
      rw [← hv]
      rw [Int.add_comm, Int.add_mul_ediv_right _ _ (by omega), Int.ediv_eq_zero_of_lt hr0 hr1]
      omega
    | succ i ih =>
      intro f rest hi hr0 hr1 hf hd hv
      have g1 := hx.1 i (by omega)
      have ei : ((i + 1 : Nat) : Int) - 1 = (i : Int) := by omega
      rw [ei]
      refine bX10_divide_5 ⟨fun h => absurd h (by omega), fun _ => ⟨fun h => absurd h (by omega), fun _ => ?_⟩⟩
      have e1 : upA H (a + 1) f a = H a := upA_ne (by omega)
      simp only [Int.toNat_natCast, r, e1, upA_same, upA_upA]
      rw [hf i (by omega)]
      have hst := hiv_step (f := H (a + 1)) (i := i) (by omega)
      generalize hA : H (a + 1) i = A at *
      have hN : 0 ≤ rest * 1000000000 + A := by omega
      have hm := Int.emod_nonneg (rest * 1000000000 + A) (show g ≠ 0 by omega)
      have hm2 := Int.emod_lt_of_pos (rest * 1000000000 + A) hg
      have hq := Int.ediv_nonneg hN (Int.le_of_lt hg)
      have hq2 : (rest * 1000000000 + A) / g < 1000000000 := by
        apply (Int.ediv_lt_iff_lt_mul hg).mpr
        omega
      have hdm := Int.mul_ediv_add_emod (rest * 1000000000 + A) g
      rw [tmod_pos hN, tdiv_pos hN]
      refine ⟨⟨by omega, by omega⟩, by omega, k1, by omega, 6, k2, by omega, by omega, ⟨by omega, by omega⟩, by omega, ⟨by omega, by omega⟩, ?_⟩
      rintro H1 rfl
      refine ⟨⟨by omega, by omega⟩, ⟨by omega, by omega⟩, ?_⟩
      refine ih _ _ (by omega) hm hm2 (fun j hj => by rw [up1_ne (by omega)]; exact hf j (by omega)) (fun j h1 h2 => ?_) ?_
      · by_cases e : j = i
        · rw [e, up1_same]; exact ⟨hq, hq2⟩
        · rw [up1_ne e]; exact hd j (by omega) h2
      · rw [hst, ← hv, hiv_step (f := up1 f i _) (by omega), up1_same, hiv_up (by omega)]
        generalize hiv f (i + 1) = z at *
        generalize (rest * 1000000000 + A) / g = z1 at *
        generalize (rest * 1000000000 + A) % g = z2 at *
        clear ih
        grind
  have := loop 6 (H (a + 1)) 0 (by omega) (by omega) hg (fun j _ => rfl) (fun j h1 h2 => absurd h2 (by omega)) (by rw [hiv_6]; simp)
  rw [upA_self] at this
  exact this
theorem sp_X10_isUnder {d : Nat} {K : Shp} {H : Mem} {a b : Nat} {x y : Int} (ha : WhK K H a) (hb : WhK K H b) (hx : Dig (H (a + 1)) x) (hy : Dig (H (b + 1)) y) : Ci mX10_isUnder d [(2, (a : Int)), (2, (b : Int))] K H (fun z H' => z = (if x < y then 1 else 0) ∧ H' = H) := by
  obtain ⟨k1, k2, r⟩ := ha
  obtain ⟨m1, m2, t⟩ := hb
  refine eX10_isUnder fun _ => ?_
  refine bX10_isUnder_0 ?_
  have fin : ∀ i, i < 6 → (∀ j, i < j → j < 6 → H (a + 1) j = H (b + 1) j) → H (a + 1) i ≠ H (b + 1) i ∨ i = 0 → ((H (a + 1) i < H (b + 1) i) ↔ x < y) := by
    intro i hi he h
    constructor
    · intro hlt
      have := val_cmp hx.1 hy.1 i hi he hlt
      rw [hx.2, hy.2] at this
      exact this
    · intro hlt
      rcases Int.lt_or_le (H (a + 1) i) (H (b + 1) i) with q | q
      · exact q
      · exfalso
        rcases Int.lt_or_eq_of_le q with q | q
        · have := val_cmp hy.1 hx.1 i hi (fun j h1 h2 => (he j h1 h2).symm) q
          rw [hx.2, hy.2] at this
          omega
        · rcases h with h | h
          · exact h q.symm
          · have := val_congr (f := H (a + 1)) (g := H (b + 1)) (n := 6) (fun j hj => by
              by_cases e : j = i
              · rw [e]; exact q.symm
              · exact he j (by omega) hj)
            rw [hx.2, hy.2] at this
            omega
  have loop : ∀ i, i < 6 → (∀ j, i < j → j < 6 → H (a + 1) j = H (b + 1) j) → FX10_isUnder_2 d K H (fun z H' => z = (if x < y then 1 else 0) ∧ H' = H) (a : Int) (b : Int) (i : Int) := by
    intro i
    induction i with
    | zero =>
      intro hi he
      have hf := fin 0 hi he (Or.inr rfl)
      refine bX10_isUnder_2 ⟨fun _ => ?_, fun h => absurd (by omega) h⟩
      simp only [Int.toNat_natCast, r, t, show ((0 : Nat) : Int).toNat = 0 from rfl]
      refine ⟨by omega, k1, by omega, 6, k2, by omega, by omega, by omega, m1, by omega, 6, m2, by omega, fun h => ⟨?_, trivial⟩, fun h => ⟨?_, trivial⟩⟩
      · rw [if_neg (fun q => h (hf.mpr q))]
      · rw [if_pos (hf.mp h)]
    | succ i ih =>
      intro hi he
      refine bX10_isUnder_2 ⟨fun h => absurd h (by omega), fun _ => ?_⟩
      simp only [Int.toNat_natCast, r, t]
      refine ⟨by omega, k1, by omega, 6, k2, by omega, by omega, by omega, m1, by omega, 6, m2, by omega, fun hne => ?_, fun heq => ⟨⟨by omega, by omega⟩, ?_⟩⟩
      · have hf := fin (i + 1) hi he (Or.inl hne)
        refine ⟨fun h => ⟨?_, trivial⟩, fun h => ⟨?_, trivial⟩⟩
        · rw [if_neg (fun q => h (hf.mpr q))]
        · rw [if_pos (hf.mp h)]
      · have := ih (by omega) (fun j h1 h2 => by
          by_cases e : j = i + 1
          · rw [e]; exact heq
          · exact he j (by omega) h2)
        have ei : ((i + 1 : Nat) : Int) + (-1) = (i : Int) := by omega
        rw [ei]
        exact this
  exact loop 5 (by omega) (fun j h1 h2 => absurd h2 (by omega))
