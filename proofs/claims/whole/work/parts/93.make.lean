/-! constructors -/
def Ext (K K' : Shp) : Prop := ∀ (i : Nat) (v : Nat × Nat), K[i]? = some v → K'[i]? = some v
theorem Ext.rf {K : Shp} : Ext K K := fun _ _ h => h
theorem Ext.tr {K K' K2 : Shp} (h : Ext K K') (h2 : Ext K' K2) : Ext K K2 := fun i v g => h2 i v (h i v g)
theorem Ext.app {K : Shp} (l : Shp) : Ext K (K ++ l) := fun i v g => by
  have hl : i < K.length := (List.getElem?_eq_some_iff.mp g).1
  rw [List.getElem?_append_left hl]; exact g
theorem new_at {K : Shp} {n : Nat} {v : Nat × Nat} (hn : K.length = n) : (K ++ [v])[n]? = some v := by
  rw [List.getElem?_append_right (by omega), hn, Nat.sub_self]; rfl
def Later (a n : Nat) (K : Shp) (H : Mem) (K' : Shp) (H' : Mem) : Prop := Ext K K' ∧ ∀ x, x ≠ a → x < n → H' x = H x
theorem Later.rf {a n : Nat} {K : Shp} {H : Mem} : Later a n K H K H := ⟨Ext.rf, fun _ _ _ => rfl⟩
theorem Later.tr {a n m : Nat} {K K' K2 : Shp} {H H' H2 : Mem} (h : Later a n K H K' H') (h2 : Later a m K' H' K2 H2) (hm : n ≤ m) : Later a n K H K2 H2 := ⟨h.1.tr h2.1, fun x g1 g2 => (h2.2 x g1 (by omega)).trans (h.2 x g1 g2)⟩
/-- a constructor of the object a has come to n cells -/
def St (K0 : Shp) (H0 : Mem) (a : Nat) (K : Shp) (H : Mem) (n : Nat) : Prop := (∃ l, K = K0 ++ l) ∧ K.length = n ∧ a < n ∧ ∀ x, x < a → H x = H0 x
theorem St.start {K : Shp} {H : Mem} {a : Nat} (hn : K.length = a + 1) : St K H a K H (a + 1) := ⟨⟨[], (List.append_nil K).symm⟩, hn, by omega, fun _ _ => rfl⟩
theorem St.fld {K0 K : Shp} {H0 H H' : Mem} {a n f : Nat} {v : Int} (S : St K0 H0 a K H n) (e : H' = upA H a (up1 (H a) f v)) : St K0 H0 a K H' n ∧ H' a = up1 (H a) f v ∧ Later a n K H K H' := by
  obtain ⟨s1, s2, s3, s4⟩ := S
  refine ⟨⟨s1, s2, s3, fun x hx => ?_⟩, ?_, Ext.rf, fun x hx _ => ?_⟩
  · rw [e, upA_ne (by omega)]; exact s4 x hx
  · rw [e, upA_same]
  · rw [e, upA_ne hx]
theorem St.arr {K0 K K1 : Shp} {H0 H H1 H2 : Mem} {a n f kd sz : Nat} (S : St K0 H0 a K H n) (e1 : H1 = upA H K.length (dflt kd)) (k1 : K1 = K ++ [(kd, sz)]) (e2 : H2 = upA H1 a (up1 (H1 a) f ((K.length : Nat) : Int))) :
    St K0 H0 a K1 H2 (n + 1) ∧ K1[n]? = some (kd, sz) ∧ H2 n = dflt kd ∧ H2 a = up1 (H a) f ((n : Nat) : Int) ∧ Later a n K H K1 H2 := by
  obtain ⟨⟨l, s1⟩, s2, s3, s4⟩ := S
  have c : ∀ x, x ≠ a → x ≠ n → H2 x = H x := fun x h1 h2 => by rw [e2, upA_ne h1, e1, upA_ne (by omega)]
  refine ⟨⟨⟨l ++ [(kd, sz)], by rw [k1, s1, List.append_assoc]⟩, by rw [k1]; simp [s2], by omega, fun x hx => (c x (by omega) (by omega)).trans (s4 x hx)⟩, by rw [k1]; exact new_at s2, ?_, ?_, by rw [k1]; exact Ext.app _, fun x h1 h2 => c x h1 (by omega)⟩
  · rw [e2, upA_ne (by omega), e1, s2, upA_same]
  · rw [e2, upA_same, e1, upA_ne (by omega), s2]
theorem St.obj {K0 K K1 : Shp} {H0 H H1 : Mem} {a n kd sz : Nat} (S : St K0 H0 a K H n) (e1 : H1 = upA H K.length (dflt kd)) (k1 : K1 = K ++ [(kd, sz)]) : K.length = n ∧ K1.length = n + 1 ∧ K1[n]? = some (kd, sz) ∧ Ext K K1 ∧ H1 n = dflt kd ∧ ∀ x, x < n → H1 x = H x := by
  obtain ⟨⟨l, s1⟩, s2, s3, s4⟩ := S
  exact ⟨s2, by rw [k1]; simp [s2], by rw [k1]; exact new_at s2, by rw [k1]; exact Ext.app _, by rw [e1, s2, upA_same], fun x hx => by rw [e1, upA_ne (by omega)]⟩
theorem St.made {K0 K K1 K2 l1 : Shp} {H0 H H1 H2 H3 : Mem} {a n m f kd sz : Nat} (S : St K0 H0 a K H n) (e1 : H1 = upA H K.length (dflt kd)) (k1 : K1 = K ++ [(kd, sz)]) (len : (K1 ++ l1).length = m) (fr : ∀ x, x < n → H2 x = H1 x) (k2 : K2 = K1 ++ l1) (e3 : H3 = upA H2 a (up1 (H2 a) f ((K.length : Nat) : Int))) :
    St K0 H0 a K2 H3 m ∧ H3 a = up1 (H a) f ((n : Nat) : Int) ∧ Later a n K H K2 H3 ∧ Later a m K2 H2 K2 H3 := by
  obtain ⟨o1, o2, o3, o4, o6, o5⟩ := S.obj e1 k1
  obtain ⟨⟨l, s1⟩, s2, s3, s4⟩ := S
  have nm : n ≤ m := by
    have : (K1 ++ l1).length = K1.length + l1.length := List.length_append
    omega
  refine ⟨⟨⟨l ++ ([(kd, sz)] ++ l1), by rw [k2, k1, s1, List.append_assoc, List.append_assoc]⟩, by rw [k2]; exact len, by omega, fun x hx => ?_⟩, ?_, ⟨o4.tr (by rw [k2]; exact Ext.app _), fun x h1 h2 => ?_⟩, Ext.rf, fun x h1 _ => by rw [e3, upA_ne h1]⟩
  · rw [e3, upA_ne (by omega), fr x (by omega), o5 x (by omega)]; exact s4 x hx
  · rw [e3, upA_same, fr a s3, o5 a s3, o1]
  · rw [e3, upA_ne h1, fr x h2, o5 x h2]
theorem WhK.later {K K' : Shp} {H H' : Mem} {a n b : Nat} (h : WhK K H b) (L : Later a n K H K' H') (hb : b + 1 < n) (ha : a < b ∨ b + 1 < a) : WhK K' H' b := by
  obtain ⟨h1, h2, h3⟩ := h
  exact ⟨L.1 _ _ h1, L.1 _ _ h2, by rw [L.2 b (by omega) (by omega)]; exact h3⟩
theorem RatK.later {K K' : Shp} {H H' : Mem} {a n b : Nat} (h : RatK K H b) (L : Later a n K H K' H') (hb : b + 10 < n) (ha : a < b ∨ b + 10 < a) : RatK K' H' b := by
  obtain ⟨h1, h2, w1, w2, w3, w4, w5⟩ := h
  exact ⟨L.1 _ _ h1, by rw [L.2 b (by omega) (by omega)]; exact h2, w1.later L (by omega) (by omega), w2.later L (by omega) (by omega), w3.later L (by omega) (by omega), w4.later L (by omega) (by omega), w5.later L (by omega) (by omega)⟩
theorem WkS.later {K K' : Shp} {H H' : Mem} {a n b : Nat} (h : WkS K b) (L : Later a n K H K' H') : WkS K' b := ⟨L.1 _ _ h.1, L.1 _ _ h.2.1, L.1 _ _ h.2.2.1, L.1 _ _ h.2.2.2⟩
theorem TriK.later {K K' : Shp} {H H' : Mem} {a n b kd sz : Nat} (h : TriK kd sz K H b) (L : Later a n K H K' H') (hb : b < n) (ha : a ≠ b) : TriK kd sz K' H' b := by
  obtain ⟨h1, h2, h3, h4, h5⟩ := h
  exact ⟨L.1 _ _ h1, L.1 _ _ h2, L.1 _ _ h3, by rw [L.2 b (by omega) hb]; exact h4, by rw [L.2 b (by omega) hb]; exact h5⟩
theorem qn_of {K K' : Shp} {H : Mem} {q : Shp → Mem → Prop} (h : ∃ l, K' = K ++ l) (hq : ∀ l, K' = K ++ l → q l H) : qn K q none K' H := by
  obtain ⟨l, e⟩ := h
  exact ⟨rfl, l, e, hq l e⟩
section Mk
variable {d : Nat} {K : Shp} {H : Mem} {a : Nat} {q : Shp → Mem → Prop}
theorem in_X10 (hn : K.length = a + 1) (ha : K[a]? = some (10, 1)) (hq : ∀ l H', (K ++ l).length = a + 2 → (∀ x, x < a → H' x = H x) → WhK (K ++ l) H' a → q l H') : Cn mX10_init (d + 1) 1 6 [(2, (a : Int))] K H q := by
  refine eX10_init fun _ => bX10_init_0 ?_
  simp only [Int.toNat_natCast]
  refine ⟨by omega, by decide, by decide, fun H1 e1 K1 k1 => ⟨by rw [k1]; exact Ext.app _ _ _ ha, fun H2 e2 => ?_⟩⟩
  obtain ⟨S1, w1, z1, v1, L1⟩ := (St.start (H := H) hn).arr e1 k1 e2
  refine qn_of S1.1 (fun l el => ?_)
  rw [el] at S1 w1 L1
  exact hq l H2 S1.2.1 S1.2.2.2 ⟨L1.1 _ _ ha, w1, by rw [v1]; rfl⟩
theorem in_X5 (hn : K.length = a + 1) (ha : K[a]? = some (5, 2)) (hq : ∀ l H', (K ++ l).length = a + 1 → (∀ x, x < a → H' x = H x) → (K ++ l)[a]? = some (5, 2) → q l H') : Cn mX5_init (d + 1) 0 0 [(2, (a : Int))] K H q := by
  refine eX5_init fun _ => bX5_init_0 ?_
  simp only [Int.toNat_natCast]
  refine ⟨by omega, ha, fun H1 e1 H2 e2 => ?_⟩
  obtain ⟨S1, v1, L1⟩ := (St.start (H := H) hn).fld e1
  obtain ⟨S2, v2, L2⟩ := S1.fld e2
  refine qn_of S2.1 (fun l el => ?_)
  exact hq l H2 (by rw [← el]; exact S2.2.1) S2.2.2.2 (Ext.app l _ _ ha)

theorem in_X2 (hn : K.length = a + 1) (ha : K[a]? = some (2, 3)) (hq : ∀ l H', (K ++ l).length = a + 3 → (∀ x, x < a → H' x = H x) → TriK 2 8 (K ++ l) H' a → H' a 0 = 0 → q l H') : Cn mX2_init (d + 1) 2 16 [(2, (a : Int))] K H q := by
  refine eX2_init fun _ => bX2_init_0 ?_
  simp only [Int.toNat_natCast]
  refine ⟨by omega, ha, fun H0 e0 => ⟨by decide, by decide, fun H1 e1 K1 k1 H2 e2 => ⟨by decide, by decide, fun H3 e3 K3 k3 H4 e4 => ?_⟩⟩⟩
  obtain ⟨S0, v0, L0⟩ := (St.start (H := H) hn).fld e0
  obtain ⟨S1, w1, z1, v1, L1⟩ := S0.arr e1 k1 e2
  obtain ⟨S2, w2, z2, v2, L2⟩ := S1.arr e3 k3 e4
  have T1 := L1.tr L2 (by omega)
  have T0 := L0.tr T1 (by omega)
  have vv : H4 a = up1 (up1 (up1 (H a) 0 0) 1 ((a + 1 : Nat) : Int)) 2 ((a + 1 + 1 : Nat) : Int) := by rw [v2, v1, v0]
  refine qn_of S2.1 (fun l el => ?_)
  rw [el] at S2 w2 L2 T0
  exact hq l H4 S2.2.1 S2.2.2.2 ⟨T0.1 _ _ ha, L2.1 _ _ w1, w2, by rw [vv]; rfl, by rw [vv]; rfl⟩ (by rw [vv]; rfl)

theorem in_X6 (hn : K.length = a + 1) (ha : K[a]? = some (6, 3)) (hq : ∀ l H', (K ++ l).length = a + 3 → (∀ x, x < a → H' x = H x) → TriK 6 4 (K ++ l) H' a → H' a 0 = 0 → q l H') : Cn mX6_init (d + 1) 2 8 [(2, (a : Int))] K H q := by
  refine eX6_init fun _ => bX6_init_0 ?_
  simp only [Int.toNat_natCast]
  refine ⟨by omega, ha, fun H0 e0 => ⟨by decide, by decide, fun H1 e1 K1 k1 H2 e2 => ⟨by decide, by decide, fun H3 e3 K3 k3 H4 e4 => ?_⟩⟩⟩
  obtain ⟨S0, v0, L0⟩ := (St.start (H := H) hn).fld e0
  obtain ⟨S1, w1, z1, v1, L1⟩ := S0.arr e1 k1 e2
  obtain ⟨S2, w2, z2, v2, L2⟩ := S1.arr e3 k3 e4
  have T1 := L1.tr L2 (by omega)
  have T0 := L0.tr T1 (by omega)
  have vv : H4 a = up1 (up1 (up1 (H a) 0 0) 1 ((a + 1 : Nat) : Int)) 2 ((a + 1 + 1 : Nat) : Int) := by rw [v2, v1, v0]
  refine qn_of S2.1 (fun l el => ?_)
  rw [el] at S2 w2 L2 T0
  exact hq l H4 S2.2.1 S2.2.2.2 ⟨T0.1 _ _ ha, L2.1 _ _ w1, w2, by rw [vv]; rfl, by rw [vv]; rfl⟩ (by rw [vv]; rfl)

/-- a span's shapes -/
def SpnK (K : Shp) (H : Mem) (p : Nat) : Prop := K[p]? = some (7, 5) ∧ K[p + 1]? = some (20, 2) ∧ K[p + 2]? = some (20, 2) ∧ H p 3 = ((p + 1 : Nat) : Int) ∧ H p 4 = ((p + 2 : Nat) : Int)
theorem SpnK.later {K K' : Shp} {H H' : Mem} {a n b : Nat} (h : SpnK K H b) (L : Later a n K H K' H') (hb : b < n) (ha : a ≠ b) : SpnK K' H' b := by
  obtain ⟨h1, h2, h3, h4, h5⟩ := h
  exact ⟨L.1 _ _ h1, L.1 _ _ h2, L.1 _ _ h3, by rw [L.2 b (by omega) hb]; exact h4, by rw [L.2 b (by omega) hb]; exact h5⟩
theorem in_X7 (hn : K.length = a + 1) (ha : K[a]? = some (7, 5)) (hq : ∀ l H', (K ++ l).length = a + 3 → (∀ x, x < a → H' x = H x) → SpnK (K ++ l) H' a → q l H') : Cn mX7_init (d + 1) 2 4 [(2, (a : Int))] K H q := by
  refine eX7_init fun _ => bX7_init_0 ?_
  simp only [Int.toNat_natCast]
  refine ⟨by omega, ha, fun H0 e0 H0' e0' H0'' e0'' => ⟨by decide, by decide, fun H1 e1 K1 k1 H2 e2 => ⟨by decide, by decide, fun H3 e3 K3 k3 H4 e4 => ?_⟩⟩⟩
  obtain ⟨S0, v0, L0⟩ := (St.start (H := H) hn).fld e0
  obtain ⟨S0', v0', L0'⟩ := S0.fld e0'
  obtain ⟨S0'', v0'', L0''⟩ := S0'.fld e0''
  obtain ⟨S1, w1, z1, v1, L1⟩ := S0''.arr e1 k1 e2
  obtain ⟨S2, w2, z2, v2, L2⟩ := S1.arr e3 k3 e4
  have T1 := L1.tr L2 (by omega)
  have T0 := (L0.tr (L0'.tr L0'' (by omega)) (by omega)).tr T1 (by omega)
  have vv : H4 a = up1 (up1 (H0'' a) 3 ((a + 1 : Nat) : Int)) 4 ((a + 1 + 1 : Nat) : Int) := by rw [v2, v1]
  refine qn_of S2.1 (fun l el => ?_)
  rw [el] at S2 w2 L2 T0
  exact hq l H4 S2.2.1 S2.2.2.2 ⟨T0.1 _ _ ha, L2.1 _ _ w1, w2, by rw [vv]; rfl, by rw [vv]; rfl⟩

theorem in_X3 (hn : K.length = a + 1) (ha : K[a]? = some (3, 5)) (hq : ∀ l H', (K ++ l).length = a + 11 → (∀ x, x < a → H' x = H x) → RatK (K ++ l) H' a → q l H') : Cn mX3_init (d + 2) 10 35 [(2, (a : Int))] K H q := by
  refine eX3_init fun _ => bX3_init_0 ?_
  simp only [Int.toNat_natCast]
  refine And.intro (by omega) ?_
  have S0 := St.start (H := H) hn
  refine ⟨by decide, by decide, fun A0 a0 B0 b0 => ⟨by decide, by decide, ?_⟩⟩
  obtain ⟨o0, p0, r0, x0, _, f0⟩ := S0.obj a0 b0
  rw [o0]
  refine in_X10 (a := a + 1) p0 r0 ?_
  intro l0 C0 len0 fr0 w0 K0 k0
  refine And.intro (by rw [k0]; exact Ext.app _ _ _ (x0 _ _ ha)) ?_
  intro H0 h0
  rw [← o0] at h0
  obtain ⟨S1, v0, L0, M0⟩ := S0.made a0 b0 len0 fr0 k0 h0
  rw [← k0] at w0
  have W0 := w0.later M0 (by omega) (by omega)
  refine ⟨by decide, by decide, fun A1 a1 B1 b1 => ⟨by decide, by decide, ?_⟩⟩
  obtain ⟨o1, p1, r1, x1, _, f1⟩ := S1.obj a1 b1
  rw [o1]
  refine in_X10 (a := a + 3) p1 r1 ?_
  intro l1 C1 len1 fr1 w1 K1 k1
  intro H1 h1
  rw [← o1] at h1
  obtain ⟨S2, v1, L1, M1⟩ := S1.made a1 b1 len1 fr1 k1 h1
  rw [← k1] at w1
  have W1 := w1.later M1 (by omega) (by omega)
  refine ⟨by decide, by decide, fun A2 a2 B2 b2 => ⟨by decide, by decide, ?_⟩⟩
  obtain ⟨o2, p2, r2, x2, _, f2⟩ := S2.obj a2 b2
  rw [o2]
  refine in_X10 (a := a + 5) p2 r2 ?_
  intro l2 C2 len2 fr2 w2 K2 k2
  intro H2 h2
  rw [← o2] at h2
  obtain ⟨S3, v2, L2, M2⟩ := S2.made a2 b2 len2 fr2 k2 h2
  rw [← k2] at w2
  have W2 := w2.later M2 (by omega) (by omega)
  refine ⟨by decide, by decide, fun A3 a3 B3 b3 => ⟨by decide, by decide, ?_⟩⟩
  obtain ⟨o3, p3, r3, x3, _, f3⟩ := S3.obj a3 b3
  rw [o3]
  refine in_X10 (a := a + 7) p3 r3 ?_
  intro l3 C3 len3 fr3 w3 K3 k3
  intro H3 h3
  rw [← o3] at h3
  obtain ⟨S4, v3, L3, M3⟩ := S3.made a3 b3 len3 fr3 k3 h3
  rw [← k3] at w3
  have W3 := w3.later M3 (by omega) (by omega)
  refine ⟨by decide, by decide, fun A4 a4 B4 b4 => ⟨by decide, by decide, ?_⟩⟩
  obtain ⟨o4, p4, r4, x4, _, f4⟩ := S4.obj a4 b4
  rw [o4]
  refine in_X10 (a := a + 9) p4 r4 ?_
  intro l4 C4 len4 fr4 w4 K4 k4
  intro H4 h4
  rw [← o4] at h4
  obtain ⟨S5, v4, L4, M4⟩ := S4.made a4 b4 len4 fr4 k4 h4
  rw [← k4] at w4
  have W4 := w4.later M4 (by omega) (by omega)
  have T4 : Later a (a + 11) K4 H4 K4 H4 := Later.rf
  have T3 := L4
  have T2 := L3.tr T3 (by omega)
  have T1 := L2.tr T2 (by omega)
  have T0 := L1.tr T1 (by omega)
  have TT := L0.tr T0 (by omega)
  have vv : H4 a = up1 (up1 (up1 (up1 (up1 (H a) 0 ((a + 1 : Nat) : Int)) 1 ((a + 3 : Nat) : Int)) 2 ((a + 5 : Nat) : Int)) 3 ((a + 7 : Nat) : Int)) 4 ((a + 9 : Nat) : Int) := by rw [v4, v3, v2, v1, v0]
  refine qn_of S5.1 (fun l el => ?_)
  have R : RatK K4 H4 a := ⟨TT.1 _ _ ha, ⟨by rw [vv]; rfl, by rw [vv]; rfl, by rw [vv]; rfl, by rw [vv]; rfl, by rw [vv]; rfl⟩, W0.later T0 (by omega) (by omega), W1.later T1 (by omega) (by omega), W2.later T2 (by omega) (by omega), W3.later T3 (by omega) (by omega), W4⟩
  rw [el] at R
  exact hq l H4 (by rw [← el]; exact S5.2.1) S5.2.2.2 R

theorem in_X9 (hn : K.length = a + 1) (ha : K[a]? = some (9, 6)) (hq : ∀ l H', (K ++ l).length = a + 4 → (∀ x, x < a → H' x = H x) → WkS (K ++ l) a → WkP (H' a) a → q l H') : Cn mX9_init (d + 2) 3 28 [(2, (a : Int))] K H q := by
  refine eX9_init fun _ => bX9_init_0 ?_
  simp only [Int.toNat_natCast]
  refine And.intro (by omega) ?_
  have S0 := St.start (H := H) hn
  refine ⟨by decide, by decide, fun A0 a0 B0 b0 => ⟨by decide, by decide, ?_⟩⟩
  obtain ⟨o0, p0, r0, x0, _, f0⟩ := S0.obj a0 b0
  rw [o0]
  refine in_X5 (a := a + 1) p0 r0 ?_
  intro l0 C0 len0 fr0 w0 K0 k0
  refine And.intro (by rw [k0]; exact Ext.app _ _ _ (x0 _ _ ha)) ?_
  intro H0 h0
  rw [← o0] at h0
  obtain ⟨S1, v0, L0, M0⟩ := S0.made a0 b0 len0 fr0 k0 h0
  rw [← k0] at w0
  refine ⟨by decide, by decide, fun A1 a1 B1 b1 => ⟨by decide, by decide, ?_⟩⟩
  obtain ⟨o1, p1, r1, x1, _, f1⟩ := S1.obj a1 b1
  rw [o1]
  refine in_X5 (a := a + 1 + 1) p1 r1 ?_
  intro l1 C1 len1 fr1 w1 K1 k1 H1 h1
  rw [← o1] at h1
  obtain ⟨S2, v1, L1, M1⟩ := S1.made a1 b1 len1 fr1 k1 h1
  rw [← k1] at w1
  refine ⟨by decide, by decide, fun A2 a2 B2 b2 H2 h2 H3 h3 H4 h4 H5 h5 => ?_⟩
  obtain ⟨S3, w2, z2, v2, L2⟩ := S2.arr a2 b2 h2
  obtain ⟨S4, v3, L3⟩ := S3.fld h3
  obtain ⟨S5, v4, L4⟩ := S4.fld h4
  obtain ⟨S6, v5, L5⟩ := S5.fld h5
  have T2 := L3.tr (L4.tr L5 (by omega)) (by omega)
  have T1 := L2.tr T2 (by omega)
  have T0 := L1.tr T1 (by omega)
  have TT := L0.tr T0 (by omega)
  have vv : H5 a = up1 (up1 (up1 (up1 (up1 (up1 (H a) 0 ((a + 1 : Nat) : Int)) 1 ((a + 1 + 1 : Nat) : Int)) 2 ((a + 1 + 1 + 1 : Nat) : Int)) 3 0) 4 0) 5 0 := by rw [v5, v4, v3, v2, v1, v0]
  refine qn_of S6.1 (fun l el => ?_)
  have R : WkS B2 a := ⟨TT.1 _ _ ha, T0.1 _ _ w0, T1.1 _ _ w1, T2.1 _ _ w2⟩
  rw [el] at R
  exact hq l H5 (by rw [← el]; exact S6.2.1) S6.2.2.2 R ⟨by rw [vv]; rfl, by rw [vv]; rfl, by rw [vv]; rfl⟩
def TxtK (K : Shp) (H : Mem) (t : Nat) : Prop := K[t]? = some (8, 3) ∧ K[t + 1]? = some (20, 110) ∧ RatK K H (t + 2) ∧ H t 1 = ((t + 1 : Nat) : Int) ∧ H t 2 = ((t + 2 : Nat) : Int) ∧ H t 0 = 0
theorem TxtK.later {K K' : Shp} {H H' : Mem} {a n b : Nat} (h : TxtK K H b) (L : Later a n K H K' H') (hb : b + 12 < n) (ha : a < b ∨ b + 12 < a) : TxtK K' H' b := by
  obtain ⟨h1, h2, h3, h4, h5, h6⟩ := h
  exact ⟨L.1 _ _ h1, L.1 _ _ h2, h3.later L (by omega) (by omega), by rw [L.2 b (by omega) (by omega)]; exact h4, by rw [L.2 b (by omega) (by omega)]; exact h5, by rw [L.2 b (by omega) (by omega)]; exact h6⟩
theorem in_X8 (hn : K.length = a + 1) (ha : K[a]? = some (8, 3)) (hq : ∀ l H', (K ++ l).length = a + 13 → (∀ x, x < a → H' x = H x) → TxtK (K ++ l) H' a → q l H') : Cn mX8_init (d + 3) 12 150 [(2, (a : Int))] K H q := by
  refine eX8_init fun _ => bX8_init_0 ?_
  simp only [Int.toNat_natCast]
  refine ⟨by omega, ha, fun H0 e0 => ⟨by decide, by decide, fun H1 e1 K1 k1 H2 e2 => ⟨by decide, by decide, fun A0 a0 B0 b0 => ⟨by decide, by decide, ?_⟩⟩⟩⟩
  obtain ⟨S0, v0, L0⟩ := (St.start (H := H) hn).fld e0
  obtain ⟨S1, w1, z1, v1, L1⟩ := S0.arr e1 k1 e2
  obtain ⟨o0, p0, r0, x0, _, f0⟩ := S1.obj a0 b0
  rw [o0]
  refine in_X3 (a := a + 1 + 1) p0 r0 ?_
  intro l0 C0 len0 fr0 w0 K0 k0 H3 h3
  rw [← o0] at h3
  obtain ⟨S2, v2, L2, M2⟩ := S1.made a0 b0 len0 fr0 k0 h3
  rw [← k0] at w0
  have W := w0.later M2 (by omega) (by omega)
  have T0 := L1.tr L2 (by omega)
  have TT := L0.tr T0 (by omega)
  have vv : H3 a = up1 (up1 (up1 (H a) 0 0) 1 ((a + 1 : Nat) : Int)) 2 ((a + 1 + 1 : Nat) : Int) := by rw [v2, v1, v0]
  refine qn_of S2.1 (fun l el => ?_)
  have R : TxtK K0 H3 a := ⟨TT.1 _ _ ha, L2.1 _ _ w1, W, by rw [vv]; rfl, by rw [vv]; rfl, by rw [vv]; rfl⟩
  rw [el] at R
  exact hq l H3 (by rw [← el]; exact S2.2.1) S2.2.2.2 R

def ChoK (K : Shp) (H : Mem) (c : Nat) : Prop := K[c]? = some (1, 8) ∧ (WkS K (c + 1) ∧ WkP (H (c + 1)) (c + 1)) ∧ K[c + 5]? = some (20, 16) ∧ K[c + 6]? = some (20, 16) ∧ K[c + 7]? = some (22, 16) ∧ K[c + 8]? = some (20, 6) ∧ K[c + 9]? = some (20, 6) ∧ H c 0 = ((c + 1 : Nat) : Int) ∧ H c 2 = ((c + 5 : Nat) : Int) ∧ H c 3 = ((c + 6 : Nat) : Int) ∧ H c 4 = ((c + 7 : Nat) : Int) ∧ H c 6 = ((c + 8 : Nat) : Int) ∧ H c 7 = ((c + 9 : Nat) : Int)
theorem ChoK.later {K K' : Shp} {H H' : Mem} {a n b : Nat} (h : ChoK K H b) (L : Later a n K H K' H') (hb : b + 9 < n) (ha : a < b ∨ b + 9 < a) : ChoK K' H' b := by
  obtain ⟨h1, ⟨h2, h3⟩, h4, h5, h6, h7, h8, h9⟩ := h
  exact ⟨L.1 _ _ h1, ⟨h2.later L, by rw [L.2 _ (by omega) (by omega)]; exact h3⟩, L.1 _ _ h4, L.1 _ _ h5, L.1 _ _ h6, L.1 _ _ h7, L.1 _ _ h8, by rw [L.2 b (by omega) (by omega)]; exact h9⟩
theorem in_X1 (hn : K.length = a + 1) (ha : K[a]? = some (1, 8)) (hq : ∀ l H', (K ++ l).length = a + 10 → (∀ x, x < a → H' x = H x) → ChoK (K ++ l) H' a → q l H') : Cn mX1_init (d + 3) 9 94 [(2, (a : Int))] K H q := by
  refine eX1_init fun _ => bX1_init_0 ?_
  simp only [Int.toNat_natCast]
  refine And.intro (by omega) ?_
  have S0 := St.start (H := H) hn
  refine ⟨by decide, by decide, fun A0 a0 B0 b0 => ⟨by decide, by decide, ?_⟩⟩
  obtain ⟨o0, p0, r0, x0, _, f0⟩ := S0.obj a0 b0
  rw [o0]
  refine in_X9 (a := a + 1) p0 r0 ?_
  intro l0 C0 len0 fr0 w0 u0 K0 k0
  refine And.intro (by rw [k0]; exact Ext.app _ _ _ (x0 _ _ ha)) ?_
  intro H0 h0
  rw [← o0] at h0
  obtain ⟨S1, v0, L0, M0⟩ := S0.made a0 b0 len0 fr0 k0 h0
  rw [← k0] at w0
  have U0 : WkP (H0 (a + 1)) (a + 1) := by rw [M0.2 _ (by omega) (by omega)]; exact u0
  intro H1 h1
  obtain ⟨S2, v1, L1⟩ := S1.fld h1
  refine ⟨by decide, by decide, fun A2 a2 B2 b2 H2 h2 => ?_⟩
  obtain ⟨S3, w2, z2, v2, L2⟩ := S2.arr a2 b2 h2
  refine ⟨by decide, by decide, fun A3 a3 B3 b3 H3 h3 => ?_⟩
  obtain ⟨S4, w3, z3, v3, L3⟩ := S3.arr a3 b3 h3
  refine ⟨by decide, by decide, fun A4 a4 B4 b4 H4 h4 => ?_⟩
  obtain ⟨S5, w4, z4, v4, L4⟩ := S4.arr a4 b4 h4
  intro H5 h5
  obtain ⟨S6, v5, L5⟩ := S5.fld h5
  refine ⟨by decide, by decide, fun A6 a6 B6 b6 H6 h6 => ?_⟩
  obtain ⟨S7, w6, z6, v6, L6⟩ := S6.arr a6 b6 h6
  refine ⟨by decide, by decide, fun A7 a7 B7 b7 H7 h7 => ?_⟩
  obtain ⟨S8, w7, z7, v7, L7⟩ := S7.arr a7 b7 h7
  have T6 := L7
  have T5 := L6.tr T6 (by omega)
  have T4 := L5.tr T5 (by omega)
  have T3 := L4.tr T4 (by omega)
  have T2 := L3.tr T3 (by omega)
  have T1 := L2.tr T2 (by omega)
  have T0 := L1.tr T1 (by omega)
  have TT := L0.tr T0 (by omega)
  have vv : H7 a = up1 (up1 (up1 (up1 (up1 (up1 (up1 (up1 (H a) 0 ((a + 1 : Nat) : Int)) 1 0) 2 ((a + 1 + 4 : Nat) : Int)) 3 ((a + 1 + 4 + 1 : Nat) : Int)) 4 ((a + 1 + 4 + 1 + 1 : Nat) : Int)) 5 0) 6 ((a + 1 + 4 + 1 + 1 + 1 : Nat) : Int)) 7 ((a + 1 + 4 + 1 + 1 + 1 + 1 : Nat) : Int) := by rw [v7, v6, v5, v4, v3, v2, v1, v0]
  refine qn_of S8.1 (fun l el => ?_)
  have R : ChoK B7 H7 a := ⟨TT.1 _ _ ha, ⟨w0.later T0, by rw [T0.2 _ (by omega) (by omega)]; exact U0⟩, T2.1 _ _ w2, T3.1 _ _ w3, T4.1 _ _ w4, T6.1 _ _ w6, w7, by rw [vv]; rfl, by rw [vv]; rfl, by rw [vv]; rfl, by rw [vv]; rfl, by rw [vv]; rfl, by rw [vv]; rfl⟩
  rw [el] at R
  exact hq l H7 (by rw [← el]; exact S8.2.1) S8.2.2.2 R
end Mk
