/-! RodBeam$Ratio -/
/-- nothing but the cells of P has changed -/
def Same (P : Nat → Prop) (H H' : Mem) : Prop := ∀ x, ¬ P x → H' x = H x
theorem Same.rf {P : Nat → Prop} {H : Mem} : Same P H H := fun _ _ => rfl
theorem Same.up {P : Nat → Prop} {H H' : Mem} {a : Nat} {f : Nat → Int} (h : Same P H H') (ha : P a) : Same P H (upA H' a f) := fun x hx => by
  rw [upA_ne (fun e => hx (by rw [e]; exact ha))]; exact h x hx
theorem Same.trans {P : Nat → Prop} {H H' H2 : Mem} (h : Same P H H') (h2 : Same P H' H2) : Same P H H2 := fun x hx => (h2 x hx).trans (h x hx)
theorem Same.wide {P P' : Nat → Prop} {H H' : Mem} (h : Same P H H') (hp : ∀ x, P x → P' x) : Same P' H H' := fun x hx => h x (fun q => hx (hp x q))
/-- the shapes of a Ratio at r and what its fields point at -/
def RatK (K : Shp) (H : Mem) (r : Nat) : Prop := K[r]? = some (3, 5) ∧ (H r 0 = ((r + 1 : Nat) : Int) ∧ H r 1 = ((r + 3 : Nat) : Int) ∧ H r 2 = ((r + 5 : Nat) : Int) ∧ H r 3 = ((r + 7 : Nat) : Int) ∧ H r 4 = ((r + 9 : Nat) : Int)) ∧ WhK K H (r + 1) ∧ WhK K H (r + 3) ∧ WhK K H (r + 5) ∧ WhK K H (r + 7) ∧ WhK K H (r + 9)
theorem RatK.keep {K : Shp} {H : Mem} {r b n : Nat} {f : Nat → Int} (h : RatK K H r) (hb : K[b]? = some (21, n)) : RatK K (upA H b f) r := by
  obtain ⟨h1, ⟨a1, a2, a3, a4, a5⟩, w1, w2, w3, w4, w5⟩ := h
  have e : upA H b f r = H r := upA_ne (ne_kind h1 hb (by simp))
  exact ⟨h1, by rw [e]; exact ⟨a1, a2, a3, a4, a5⟩, w1.keep hb, w2.keep hb, w3.keep hb, w4.keep hb, w5.keep hb⟩
/-- the cells that a Ratio's methods write -/
def RatC (r : Nat) (x : Nat) : Prop := r < x ∧ x ≤ r + 10
theorem sp_X3_put {d : Nat} {K : Shp} {H : Mem} {r : Nat} {x y : Int} (hr : RatK K H r) (hx0 : 0 ≤ x) (hx : x ≤ 9223372036854775807) (hy0 : 0 ≤ y) (hy : y ≤ 9223372036854775807) : Cv mX3_put (d + 1) [(2, (r : Int)), (1, x), (1, y)] K H (fun H' => RatK K H' r ∧ Same (RatC r) H H' ∧ Dig (H' (r + 2)) x ∧ Dig (H' (r + 4)) y) := by
  have hr0 := hr
  obtain ⟨h1, ⟨a1, a2, a3, a4, a5⟩, w1, w2, w3, w4, w5⟩ := hr
  refine eX3_put fun _ _ _ => ?_
  refine bX3_put_0 ?_
  simp only [Int.toNat_natCast, a1]
  refine ⟨by omega, h1, by omega, w1.1, (sp_X10_put w1 hx0 hx).mono ?_⟩
  rintro _ ⟨f, rfl, hf⟩
  have k2 := hr0.keep (f := f) w1.2.1
  obtain ⟨-, ⟨b1, b2, b3, b4, b5⟩, u1, u2, u3, u4, u5⟩ := id k2
  rw [b2, Int.toNat_natCast]
  refine ⟨by omega, w2.1, (sp_X10_put u2 hy0 hy).mono ?_⟩
  rintro _ ⟨g, rfl, hg⟩
  refine ⟨k2.keep w2.2.1, (Same.rf.up ⟨by omega, by omega⟩).up ⟨by omega, by omega⟩, ?_, ?_⟩
  · rw [upA_ne (by omega), upA_same]; exact hf
  · rw [upA_same]; exact hg
theorem sp_X3_copy {d : Nat} {K : Shp} {H : Mem} {r s : Nat} {x y : Int} (hr : RatK K H r) (hs : RatK K H s) (hrs : r + 10 < s ∨ s + 10 < r) (hx : Dig (H (s + 2)) x) (hy : Dig (H (s + 4)) y) : Cv mX3_copy (d + 2) [(2, (r : Int)), (2, (s : Int))] K H (fun H' => RatK K H' r ∧ RatK K H' s ∧ Same (RatC r) H H' ∧ Dig (H' (r + 2)) x ∧ Dig (H' (r + 4)) y) := by
  have hr0 := hr
  have hs0 := hs
  obtain ⟨h1, ⟨a1, a2, a3, a4, a5⟩, w1, w2, w3, w4, w5⟩ := hr
  obtain ⟨h2, ⟨c1, c2, c3, c4, c5⟩, v1, v2, v3, v4, v5⟩ := hs
  refine eX3_copy fun _ => ?_
  refine bX3_copy_0 ?_
  simp only [Int.toNat_natCast, a1, c1]
  refine ⟨by omega, h1, by omega, h2, by omega, w1.1, (sp_X10_copy w1 v1 hx).mono ?_⟩
  rintro _ ⟨f, rfl, hf⟩
  have k2 := hr0.keep (f := f) w1.2.1
  have s2 := hs0.keep (f := f) w1.2.1
  obtain ⟨-, ⟨b1, b2, b3, b4, b5⟩, u1, u2, u3, u4, u5⟩ := id k2
  obtain ⟨-, ⟨e1, e2, e3, e4, e5⟩, t1, t2, t3, t4, t5⟩ := id s2
  rw [b2, e2, Int.toNat_natCast]
  refine ⟨by omega, w2.1, (sp_X10_copy u2 t2 (v := y) (by rw [upA_ne (by omega)]; exact hy)).mono ?_⟩
  rintro _ ⟨g, rfl, hg⟩
  refine ⟨k2.keep w2.2.1, s2.keep w2.2.1, (Same.rf.up ⟨by omega, by omega⟩).up ⟨by omega, by omega⟩, ?_, ?_⟩
  · rw [upA_ne (by omega), upA_same]; exact hf
  · rw [upA_same]; exact hg
theorem sp_X3_isUnder {d : Nat} {K : Shp} {H : Mem} {r s : Nat} {x y u v : Int} (hr : RatK K H r) (hs : RatK K H s) (hrs : r + 10 < s ∨ s + 10 < r) (hx : Dig (H (r + 2)) x) (hy : Dig (H (r + 4)) y) (hu : Dig (H (s + 2)) u) (hv : Dig (H (s + 4)) v) (h1 : x * v < 1000000000000000000000000000000000000000000000000000000) (h2 : u * y < 1000000000000000000000000000000000000000000000000000000) :
    Ci mX3_isUnder (d + 2) [(2, (r : Int)), (2, (s : Int))] K H (fun z H' => z = (if x * v < u * y then 1 else 0) ∧ RatK K H' r ∧ RatK K H' s ∧ Same (fun c => c = r + 6 ∨ c = r + 8) H H') := by
  have hr0 := hr
  have hs0 := hs
  obtain ⟨g1, ⟨a1, a2, a3, a4, a5⟩, w1, w2, w3, w4, w5⟩ := hr
  obtain ⟨g2, ⟨c1, c2, c3, c4, c5⟩, v1, v2, v3, v4, v5⟩ := hs
  refine eX3_isUnder fun _ => ?_
  refine bX3_isUnder_0 ?_
  simp only [Int.toNat_natCast, a1, a3, c2]
  refine ⟨by omega, g1, by omega, g2, by omega, w3.1, (sp_X10_product w3 w1 v2 (by omega) (by omega) hx hv h1).mono ?_⟩
  rintro _ ⟨f, rfl, hf⟩
  have k2 := hr0.keep (f := f) w3.2.1
  have s2 := hs0.keep (f := f) w3.2.1
  obtain ⟨-, ⟨b1, b2, b3, b4, b5⟩, u1, u2, u3, u4, u5⟩ := id k2
  obtain ⟨-, ⟨e1, e2, e3, e4, e5⟩, t1, t2, t3, t4, t5⟩ := id s2
  rw [b4, b2, e1, Int.toNat_natCast]
  refine ⟨by omega, w4.1, (sp_X10_product u4 t1 u2 (by omega) (by omega) (x := u) (y := y) (by rw [upA_ne (by omega)]; exact hu) (by rw [upA_ne (by omega)]; exact hy) h2).mono ?_⟩
  rintro _ ⟨g, rfl, hg⟩
  have k3 := k2.keep (f := g) w4.2.1
  have s3 := s2.keep (f := g) w4.2.1
  obtain ⟨-, ⟨n1, n2, n3, n4, n5⟩, o1, o2, o3, o4, o5⟩ := id k3
  rw [n3, n4, Int.toNat_natCast]
  refine ⟨by omega, w3.1, (sp_X10_isUnder o3 o4 (x := x * v) (y := u * y) (by rw [upA_ne (by omega), upA_same]; exact hf) (by rw [upA_same]; exact hg)).mono ?_⟩
  rintro z _ ⟨rfl, rfl⟩
  refine ⟨by split <;> simp, rfl, k3, s3, (Same.rf.up (Or.inl rfl)).up (Or.inr rfl)⟩
