/-! RodBeam$Beam: putSupport -/
/-- SAG or HOG of a section as a pair -/
def bendP (H : Mem) (s nb nr : Nat) (hi : Int) : Int × Int := match walkR (H s 0) (H s 1) (H (s + 1)) (H (s + 2)) (H (s + 3)) nb (H (s + 4)) (H (s + 5)) nr hi (sumN (H (s + 5)) nr) with
  | some (N, D, _, _) => (N, D)
  | none => (0, 1)
theorem bendP_eq {H : Mem} {s nb nr : Nat} {hi N D P Z : Int} (h : walkR (H s 0) (H s 1) (H (s + 1)) (H (s + 2)) (H (s + 3)) nb (H (s + 4)) (H (s + 5)) nr hi (sumN (H (s + 5)) nr) = some (N, D, P, Z)) : bendP H s nb nr hi = (N, D) := by
  unfold bendP; rw [h]
theorem bendP_keep {H H' : Mem} {s nb nr : Nat} {hi : Int} (e : ∀ j, j < 10 → H' (s + j) = H (s + j)) : bendP H' s nb nr hi = bendP H s nb nr hi := by
  unfold bendP
  rw [show H' s = H s from e 0 (by omega), e 1 (by omega), e 2 (by omega), e 3 (by omega), e 4 (by omega), e 5 (by omega)]
theorem bendP_bd {K : Shp} {H : Mem} {s nb nr : Nat} (hi : Int) (sI : SecI K H s nb nr) : (0 < (bendP H s nb nr hi).2 ∧ (bendP H s nb nr hi).2 ≤ 80000) ∧ 0 ≤ (bendP H s nb nr hi).1 ∧ (bendP H s nb nr hi).1 ≤ 19200000000 := by
  obtain ⟨hk, hp, hn3, hr7, hf, hz, hB, hR, hS5, h2, hE⟩ := id sI
  unfold bendP
  split
  · next N D P Z h =>
    have := bend_bd hf hz hB hR hS5 h
    show (0 < D ∧ D ≤ 80000) ∧ 0 ≤ N ∧ N ≤ 19200000000
    omega
  · decide
/-- HOG of support k of a beam of c spans, whose ends are held or not -/
def HogIs (c : Nat) (h0 h1 : Int) (hg : Nat → Int × Int) (k : Nat) (T B : Int) : Prop :=
  ((k = 0 ∧ h0 = 0 ∨ c ≤ k ∧ h1 = 0) ∧ T = 0 ∧ B = 1) ∨ (¬ (k = 0 ∧ h0 = 0 ∨ c ≤ k ∧ h1 = 0) ∧ k = 0 ∧ (T, B) = hg 0) ∨ (¬ (k = 0 ∧ h0 = 0 ∨ c ≤ k ∧ h1 = 0) ∧ 0 < k ∧ c ≤ k ∧ (T, B) = hg (k - 1)) ∨
  (0 < k ∧ k < c ∧ ((T, B) = hg (k - 1) ∨ (T, B) = hg k) ∧ T * (hg (k - 1)).2 ≤ (hg (k - 1)).1 * B ∧ T * (hg k).2 ≤ (hg k).1 * B)
def BmI (K : Shp) (H : Mem) (X c : Nat) (nb nr sx : Nat → Nat) : Prop := InvS K X ∧ ClsP H X ∧ WkP (H (X + 46)) (X + 46) ∧ (∀ i, i < 4 → SecI K H (X + 83 + 10 * i) (nb i) (nr i)) ∧ H (X + 21) 0 = (c : Int) ∧ (1 ≤ c ∧ c ≤ 5) ∧ ∀ j, j < c → H (X + 54 + 3 * j) 1 = (sx j : Int) ∧ sx j < 4
def hgF (H : Mem) (X : Nat) (nb nr sx : Nat → Nat) (hi : Int) : Nat → Int × Int := fun j => bendP H (X + 83 + 10 * sx j) (nb (sx j)) (nr (sx j)) hi
section Bm2
variable {d : Nat} {K : Shp} {H : Mem} {X c : Nat} {nb nr sx : Nat → Nat} {q : Mem → Prop}
theorem BmI.keep {H' : Mem} (h : BmI K H X c nb nr sx) (e : ∀ x, x < X + 46 ∨ X + 53 < x → H' x = H x) (w : WkP (H' (X + 46)) (X + 46)) : BmI K H' X c nb nr sx := by
  obtain ⟨h1, h2, h3, h4, h5, h6, h7⟩ := h
  refine ⟨h1, h2.keep (fun x k hk => ?_), w, fun i hi => (h4 i hi).keepc (fun j hj => e _ (by omega)), by rw [e _ (by omega)]; exact h5, h6, fun j hj => by rw [e _ (by omega)]; exact h7 j hj⟩
  unfold keepP at hk
  rw [e x (by omega)]
theorem hgF_keep {H' : Mem} {hi : Int} {j : Nat} (e : ∀ x, x < X + 46 ∨ X + 53 < x → H' x = H x) : hgF H' X nb nr sx hi j = hgF H X nb nr sx hi j := bendP_keep (fun i hi' => e _ (by omega))
/-- putHog of a span's section -/
theorem hog_of {j t : Nat} (h : BmI K H X c nb nr sx) (hj : j < c) (kt : K[t]? = some (5, 2)) (t0 : X + 50 ≤ t) (t1 : t ≤ X + 53)
    (hq : ∀ H', (∀ x, x ≠ t → (x < X + 46 ∨ X + 49 < x) → H' x = H x) → WkP (H' (X + 46)) (X + 46) → H' t 0 = (hgF H X nb nr sx 0 j).1 → H' t 1 = (hgF H X nb nr sx 0 j).2 → q H') : Cv mX0_putHog (d + 2) [(2, ((X + 21 : Nat) : Int)), (2, ((X + 83 + 10 * sx j : Nat) : Int)), (2, (t : Int))] K H q := by
  obtain ⟨h1, h2, h3, h4, h5, h6, h7⟩ := h
  have g := (h7 j hj).2
  refine sp_X0_putHog h1 h2.2.2.2.2.2.1 g h3 (h4 _ g) kt t0 t1 ?_
  intro H' N D P Z hW o w e0 e1
  have := bendP_eq hW
  exact hq H' o w (by unfold hgF; rw [this]; exact e0) (by unfold hgF; rw [this]; exact e1)
set_option maxHeartbeats 1000000 in
theorem sup_first {t : Nat} {v2 b : Int} (h : BmI K H X c nb nr sx) (kt : K[t]? = some (5, 2)) (t0 : X + 50 ≤ t) (t1 : t ≤ X + 52)
    (hq : ∀ H', (∀ x, x ≠ t → (x < X + 46 ∨ X + 49 < x) → H' x = H x) → WkP (H' (X + 46)) (X + 46) → H' t 0 = (hgF H X nb nr sx 0 0).1 → H' t 1 = (hgF H X nb nr sx 0 0).2 → q H') : FX0_putSupport_61 (d + 2) K H q ((X + 21 : Nat) : Int) ((X + 14 : Nat) : Int) v2 (t : Int) 1 b := by
  obtain ⟨h1, h2, h3, h4, h5, h6, h7⟩ := id h
  have s0 := h7 0 (by omega)
  have sp0 := h2.2.2.2.2.2.2.1 0 (by omega)
  have pk := (h1.2.2.2.2.2.2.2.2.2.2.2.1 0 (by omega)).1
  have sc := h2.2.2.1 (sx 0) s0.2
  refine bX0_putSupport_61 ?_
  simp only [Int.toNat_natCast, Option.some.injEq, Prod.mk.injEq, true_and, and_true, exists_eq_left', h1.2.2.2.2.2.2.1, h2.2.2.2.2.2.1.1, h1.2.2.2.2.2.2.2.1, Int.toNat_zero, sp0, pk, h1.2.2.2.1, s0.1, sc]
  refine ⟨by omega, fun g => absurd g (by decide), fun _ => ⟨by omega, by omega, by omega, by omega, by omega, by omega, hog_of h (by omega) kt t0 (by omega) ?_⟩⟩
  intro H' o w e0 e1
  exact ⟨fun _ => hq H' o w e0 e1, fun g => absurd g (by decide)⟩
set_option maxHeartbeats 1000000 in
theorem sup_last {j k t : Nat} (h : BmI K H X c nb nr sx) (hk : k = j + 1) (hj : j < c) (kt : K[t]? = some (5, 2)) (t0 : X + 50 ≤ t) (t1 : t ≤ X + 52)
    (hq : ∀ H', (∀ x, x ≠ t → (x < X + 46 ∨ X + 49 < x) → H' x = H x) → WkP (H' (X + 46)) (X + 46) → H' t 0 = (hgF H X nb nr sx 0 j).1 → H' t 1 = (hgF H X nb nr sx 0 j).2 → q H') : FX0_putSupport_61 (d + 2) K H q ((X + 21 : Nat) : Int) ((X + 14 : Nat) : Int) (k : Int) (t : Int) 0 1 := by
  obtain ⟨h1, h2, h3, h4, h5, h6, h7⟩ := id h
  have s0 := h7 j hj
  have sp0 := h2.2.2.2.2.2.2.1 j (by omega)
  have pk := (h1.2.2.2.2.2.2.2.2.2.2.2.1 j (by omega)).1
  have sc := h2.2.2.1 (sx j) s0.2
  have ek : (k : Int) - 1 = (j : Int) := by omega
  refine bX0_putSupport_61 ?_
  simp only [Int.toNat_natCast, Option.some.injEq, Prod.mk.injEq, true_and, and_true, exists_eq_left', ek, h1.2.2.2.2.2.2.1, h2.2.2.2.2.2.1.1, h1.2.2.2.2.2.2.2.1, sp0, pk, h1.2.2.2.1, s0.1, sc]
  refine ⟨by omega, fun _ => ⟨⟨by omega, by omega⟩, by omega, by omega, by omega, by omega, by omega, by omega, by omega, hog_of h hj kt t0 (by omega) ?_⟩, fun g => absurd trivial g⟩
  intro H' o w e0 e1
  exact ⟨fun _ => hq H' o w e0 e1, fun _ => ⟨fun _ => hq H' o w e0 e1, fun g => absurd g (by decide)⟩⟩
set_option maxHeartbeats 2000000 in
theorem sup_mid {j k t : Nat} (h : BmI K H X c nb nr sx) (hk : k = j + 1) (hj : k < c) (kt : K[t]? = some (5, 2)) (t0 : X + 50 ≤ t) (t1 : t ≤ X + 52)
    (hq : ∀ H' T B, ((T, B) = hgF H X nb nr sx 0 j ∨ (T, B) = hgF H X nb nr sx 0 k) → T * (hgF H X nb nr sx 0 j).2 ≤ (hgF H X nb nr sx 0 j).1 * B → T * (hgF H X nb nr sx 0 k).2 ≤ (hgF H X nb nr sx 0 k).1 * B → (∀ x, x ≠ t → x ≠ X + 53 → (x < X + 46 ∨ X + 49 < x) → H' x = H x) → WkP (H' (X + 46)) (X + 46) → H' t 0 = T → H' t 1 = B → q H') : FX0_putSupport_61 (d + 2) K H q ((X + 21 : Nat) : Int) ((X + 14 : Nat) : Int) (k : Int) (t : Int) 0 0 := by
  obtain ⟨h1, h2, h3, h4, h5, h6, h7⟩ := id h
  have s0 := h7 j (by omega)
  have sp0 := h2.2.2.2.2.2.2.1 j (by omega)
  have pk := (h1.2.2.2.2.2.2.2.2.2.2.2.1 j (by omega)).1
  have sc := h2.2.2.1 (sx j) s0.2
  have z0 := h7 k hj
  have zp := h2.2.2.2.2.2.2.1 k (by omega)
  have zk := (h1.2.2.2.2.2.2.2.2.2.2.2.1 k (by omega)).1
  have zc := h2.2.2.1 (sx k) z0.2
  have b1 : _ := bendP_bd 0 (h4 (sx j) s0.2)
  have b2 : _ := bendP_bd 0 (h4 (sx k) z0.2)
  have k53 : K[X + 53]? = some (5, 2) := h1.2.2.2.2.2.2.2.2.2.2.1.2.2.2
  have p11 := h2.2.2.2.2.2.1.2.2.2.2.2.2.2.2
  have ek : (k : Int) - 1 = (j : Int) := by omega
  change (0 < (hgF H X nb nr sx 0 j).2 ∧ (hgF H X nb nr sx 0 j).2 ≤ 80000) ∧ 0 ≤ (hgF H X nb nr sx 0 j).1 ∧ (hgF H X nb nr sx 0 j).1 ≤ 19200000000 at b1
  change (0 < (hgF H X nb nr sx 0 k).2 ∧ (hgF H X nb nr sx 0 k).2 ≤ 80000) ∧ 0 ≤ (hgF H X nb nr sx 0 k).1 ∧ (hgF H X nb nr sx 0 k).1 ≤ 19200000000 at b2
  have m1 := mul_bd b1.2.1 b1.2.2 (Int.le_of_lt b2.1.1) b2.1.2
  have m2 := mul_bd b2.2.1 b2.2.2 (Int.le_of_lt b1.1.1) b1.1.2
  refine bX0_putSupport_61 ?_
  simp only [Int.toNat_natCast, Option.some.injEq, Prod.mk.injEq, true_and, and_true, exists_eq_left', ek, h1.2.2.2.2.2.2.1, h2.2.2.2.2.2.1.1, h1.2.2.2.2.2.2.2.1, sp0, pk, h1.2.2.2.1, s0.1, sc]
  refine ⟨by omega, fun _ => ⟨⟨by omega, by omega⟩, by omega, by omega, by omega, by omega, by omega, by omega, by omega, hog_of h (by omega) kt t0 (by omega) ?_⟩, fun g => absurd trivial g⟩
  intro H1 o1 w1 e0 e1
  have q1 : ∀ x, x < X + 46 ∨ X + 53 < x → H1 x = H x := fun x hx => o1 x (by omega) (by omega)
  have hB1 := h.keep q1 w1
  refine ⟨fun g => absurd trivial g, fun _ => ⟨fun g => absurd trivial g, fun _ => ?_⟩⟩
  simp only [Int.toNat_natCast, Option.some.injEq, Prod.mk.injEq, true_and, and_true, exists_eq_left', q1 (X + 21) (by omega), q1 (X + 22) (by omega), q1 (X + 14) (by omega), h2.2.2.2.2.2.1.1, h1.2.2.2.2.2.2.2.1, zp, zk, q1 (X + 54 + 3 * k) (by omega), z0.1, zc, p11]
  refine ⟨by omega, by omega, by omega, by omega, by omega, by omega, hog_of hB1 hj k53 (by omega) (by omega) ?_⟩
  intro H2 o2 w2 g0 g1
  rw [hgF_keep q1] at g0 g1
  have c21 : H2 (X + 21) = H (X + 21) := (o2 _ (by omega) (by omega)).trans (q1 _ (by omega))
  have ct : H2 t = H1 t := o2 t (by omega) (by omega)
  simp only [Int.toNat_natCast, Option.some.injEq, Prod.mk.injEq, true_and, and_true, exists_eq_left', c21, p11, k53]
  refine ⟨by omega, Ci.to (sp_X5_isUnder k53 kt (by rw [ct, e1, g0]; exact ⟨by omega, by omega⟩) (by rw [ct, e0, g1]; exact ⟨by omega, by omega⟩)) ?_⟩
  rw [ct, e0, e1, g0, g1]
  by_cases lt : (hgF H X nb nr sx 0 k).1 * (hgF H X nb nr sx 0 j).2 < (hgF H X nb nr sx 0 j).1 * (hgF H X nb nr sx 0 k).2
  · rw [if_pos lt]
    refine ⟨fun g => absurd g (by decide), fun _ => ?_⟩
    simp only [Int.toNat_natCast, Option.some.injEq, Prod.mk.injEq, true_and, and_true, exists_eq_left', c21, p11, k53, kt]
    refine ⟨by omega, by omega, (sp_X5_put kt).mono ?_⟩
    rintro H3 ⟨g, e3, y0, y1⟩
    exact hq H3 (hgF H X nb nr sx 0 k).1 (hgF H X nb nr sx 0 k).2 (Or.inr rfl) (Int.le_of_lt lt) (Int.le_refl _) (fun x x1 x2 x3 => by rw [e3, upA_ne x1, o2 x x2 x3, o1 x x1 x3]) (by rw [e3, upA_ne (by omega)]; exact w2) (by rw [e3, upA_same, y0]; exact g0) (by rw [e3, upA_same, y1]; exact g1)
  · rw [if_neg lt]
    refine ⟨fun _ => ?_, fun g => absurd rfl g⟩
    exact hq H2 (hgF H X nb nr sx 0 j).1 (hgF H X nb nr sx 0 j).2 (Or.inl rfl) (Int.le_refl _) (Int.not_lt.mp lt) (fun x x1 x2 x3 => by rw [o2 x x2 x3, o1 x x1 x3]) w2 (by rw [ct]; exact e0) (by rw [ct]; exact e1)
set_option maxHeartbeats 2000000 in
theorem sp_X0_putSupport {k t : Nat} (h : BmI K H X c nb nr sx) (hk : k ≤ c) (kt : K[t]? = some (5, 2)) (t0 : X + 50 ≤ t) (t1 : t ≤ X + 52)
    (hq : ∀ H' T B, HogIs c (H (X + 23) 0) (H (X + 23) 1) (hgF H X nb nr sx 0) k T B → (∀ x, x ≠ t → x ≠ X + 53 → (x < X + 46 ∨ X + 49 < x) → H' x = H x) → WkP (H' (X + 46)) (X + 46) → H' t 0 = T → H' t 1 = B → q H') : Cv mX0_putSupport (d + 3) [(2, ((X + 21 : Nat) : Int)), (2, ((X + 14 : Nat) : Int)), (0, (k : Int)), (2, (t : Int))] K H q := by
  obtain ⟨h1, h2, h3, h4, h5, h6, h7⟩ := id h
  have kb := h1.2.2.2.2.2.2.1
  have p2 := h2.2.2.2.2.2.1.2.1
  have k23 := h1.2.2.2.2.2.2.2.2.1
  have z1 : (1 : Int).toNat = 1 := rfl
  have put0 : ((k = 0 ∧ H (X + 23) 0 = 0) ∨ (c ≤ k ∧ H (X + 23) 1 = 0)) → Cv mX5_put (d + 2) [(2, (t : Int)), (1, 0), (1, 1)] K H (fun H' => q H') := fun z => (sp_X5_put kt).mono fun H3 hh => by
    obtain ⟨g, e3, y0, y1⟩ := hh
    exact hq H3 0 1 (Or.inl ⟨z, rfl, rfl⟩) (fun x x1 _ _ => by rw [e3, upA_ne x1]) (by rw [e3, upA_ne (by omega)]; exact h3) (by rw [e3, upA_same, y0]) (by rw [e3, upA_same, y1])
  refine eX0_putSupport fun _ _ => bX0_putSupport_0 ?_
  by_cases k0 : k = 0
  · refine ⟨fun g => absurd (show (k : Int) ≤ 0 by omega) g, fun _ => bX0_putSupport_9 ?_⟩
    simp only [Int.toNat_natCast, Option.some.injEq, Prod.mk.injEq, true_and, and_true, exists_eq_left', kb, h5]
    refine ⟨by omega, fun _ => bX0_putSupport_24 ?_, fun g => absurd (show (k : Int) < (c : Int) by omega) g⟩
    simp only [Int.toNat_natCast, Option.some.injEq, Prod.mk.injEq, true_and, and_true, exists_eq_left', kb, p2, k23, Int.toNat_zero, z1, kt]
    refine ⟨fun g => absurd g (by decide), fun _ => ⟨by omega, by omega, by omega, fun z => ⟨by omega, put0 (Or.inl ⟨k0, z⟩)⟩, fun z => ⟨fun _ => sup_first h kt t0 t1 ?_, fun g => absurd trivial g⟩⟩⟩
    intro H' o w e0 e1
    exact hq H' (hgF H X nb nr sx 0 0).1 (hgF H X nb nr sx 0 0).2 (Or.inr (Or.inl ⟨fun g => by rcases g with g | g; exact z g.2; omega, k0, rfl⟩)) (fun x x1 _ x3 => o x x1 x3) w e0 e1
  · obtain ⟨j, ej⟩ : ∃ j, k = j + 1 := ⟨k - 1, by omega⟩
    have kj : k - 1 = j := by omega
    refine ⟨fun _ => bX0_putSupport_9 ?_, fun g => absurd g (by omega)⟩
    simp only [Int.toNat_natCast, Option.some.injEq, Prod.mk.injEq, true_and, and_true, exists_eq_left', kb, h5]
    by_cases hl : k < c
    · refine ⟨by omega, fun _ => bX0_putSupport_24 ⟨fun _ => ⟨fun _ => sup_mid h ej hl kt t0 t1 ?_, fun g => absurd rfl g⟩, fun g => absurd rfl g⟩, fun g => absurd (show (k : Int) < (c : Int) by omega) g⟩
      intro H' T B g1 g2 g3 o w e0 e1
      exact hq H' T B (Or.inr (Or.inr (Or.inr ⟨by omega, hl, by rw [kj]; exact g1, by rw [kj]; exact g2, g3⟩))) o w e0 e1
    · refine ⟨by omega, fun g => absurd g (by omega), fun _ => bX0_putSupport_24 ?_⟩
      simp only [Int.toNat_natCast, Option.some.injEq, Prod.mk.injEq, true_and, and_true, exists_eq_left', kb, p2, k23, Int.toNat_zero, z1, kt]
      refine ⟨fun _ => ⟨fun g => absurd g (by decide), fun _ => ⟨by omega, by omega, by omega, fun z => sup_last h ej (by omega) kt t0 t1 ?_, fun z => ⟨by omega, put0 (Or.inr ⟨by omega, z⟩)⟩⟩⟩, fun g => absurd trivial g⟩
      intro H' o w e0 e1
      exact hq H' (hgF H X nb nr sx 0 j).1 (hgF H X nb nr sx 0 j).2 (Or.inr (Or.inr (Or.inl ⟨fun g => by rcases g with g | g; exact k0 g.1; exact z g.2, by omega, by omega, by rw [kj]⟩))) (fun x x1 _ x3 => o x x1 x3) w e0 e1
end Bm2
