/-! RodBeam$Beam: reckon, whole -/
section Rk3
variable {d : Nat} {K : Shp} {H : Mem} {X c : Nat} {nb nr sx : Nat → Nat} {q : Mem → Prop}
set_option maxHeartbeats 600000 in
theorem sp_X0_reckon {n l ld : Nat} (h : BmI K H X c nb nr sx) (hr : RatK K H (X + 24)) (hn : n < c) (hld : H (X + 54 + 3 * n) 2 = (ld : Int)) (ld2 : ld ≤ 2) (hl : l < ld) (hL : 2 ≤ H (X + 54 + 3 * n) 0 ∧ H (X + 54 + 3 * n) 0 ≤ 50)
    (hk : ∀ k, k < ld → (1 ≤ H (X + 54 + 3 * n + 1) k ∧ H (X + 54 + 3 * n + 1) k < H (X + 54 + 3 * n) 0) ∧ 1 ≤ H (X + 54 + 3 * n + 2) k ∧ H (X + 54 + 3 * n + 2) k ≤ 1000)
    (hq : ∀ H' T1 C1 T2 C2 p r, HogIs c (H (X + 23) 0) (H (X + 23) 1) (hgF H X nb nr sx 0) n T1 C1 → HogIs c (H (X + 23) 0) (H (X + 23) 1) (hgF H X nb nr sx 0) (n + 1) T2 C2 → (∀ x, (x ≤ X + 24 ∨ X + 34 < x) → (x < X + 46 ∨ X + 53 < x) → H' x = H x) → RatK K H' (X + 24) → WkP (H' (X + 46)) (X + 46) → Dig (H' (X + 24 + 2)) p → Dig (H' (X + 24 + 4)) r → Red p r →
      p * ((hgF H X nb nr sx 1 n).2 * C1 * C2 * sumN (freeT (H (X + 54 + 3 * n) 0) (H (X + 54 + 3 * n + 1)) (H (X + 54 + 3 * n + 2)) (H (X + 54 + 3 * n + 1) l)) ld) = timT (hgF H X nb nr sx 1 n).1 (hgF H X nb nr sx 1 n).2 T1 C1 T2 C2 (H (X + 54 + 3 * n) 0) (H (X + 54 + 3 * n + 1) l) * r → p ≤ 18432000000000000000000 → r ≤ 2560000000000000000000 → 0 < sumN (freeT (H (X + 54 + 3 * n) 0) (H (X + 54 + 3 * n + 1)) (H (X + 54 + 3 * n + 2)) (H (X + 54 + 3 * n + 1) l)) ld → q H') :
    Cv mX0_reckon (d + 4) [(2, ((X + 21 : Nat) : Int)), (2, ((X + 14 : Nat) : Int)), (0, (n : Int)), (0, (l : Int))] K H q := by
  obtain ⟨h1, h2, h3, h4, h5, h6, h7⟩ := id h
  have kb := h1.2.2.2.2.2.2.1
  have bm := h2.2.2.2.2.2.1
  obtain ⟨k50, k51, k52, k53⟩ := h1.2.2.2.2.2.2.2.2.2.2.1
  have k22 := h1.2.2.2.2.2.2.2.1
  have k14 := h1.2.2.2.1
  obtain ⟨pk0, pk1, pk2⟩ := h1.2.2.2.2.2.2.2.2.2.2.2.1 n (by omega)
  have n5 : n < 5 := by omega
  have sn2 : sx n < 4 := (h7 n hn).2
  have gl := hk l hl
  have sb := h.hb 1 n hn
  obtain ⟨S, eS⟩ : ∃ S, (hgF H X nb nr sx 1 n).1 = S := ⟨_, rfl⟩
  obtain ⟨D, eD⟩ : ∃ D, (hgF H X nb nr sx 1 n).2 = D := ⟨_, rfl⟩
  rw [eS, eD] at hq sb
  have iS : IsV (hgF H X nb nr sx 1 n).1 S := eS
  have iD : IsV (hgF H X nb nr sx 1 n).2 D := eD
  clear eS eD
  refine eX0_reckon fun _ _ _ => bX0_reckon_0 ?_
  simp only [Int.toNat_natCast, Option.some.injEq, Prod.mk.injEq, true_and, and_true, exists_eq_left', kb, bm.1, k22, h2.2.2.2.2.2.2.1 n n5, pk0, (h2.2.2.2.2.2.2.2 n n5).1, pk1, k14, (h7 n hn).1, h2.2.2.1 (sx n) sn2, bm.2.2.2.2.2.1]
  refine ⟨by omega, by omega, by omega, by omega, by omega, by omega, by omega, by omega, by omega, by omega, by omega, sag_of h hn k50 (by omega) (by omega) ?_⟩
  intro H1 o1 w1 s0h s1h
  have s0 : H1 (X + 50) 0 = S := s0h.trans iS
  have s1 : H1 (X + 50) 1 = D := s1h.trans iD
  clear s0h s1h iS iD
  have q1 : ∀ x, x < X + 46 ∨ X + 53 < x → H1 x = H x := fun x hx => o1 x (by omega) (by omega)
  have I1 := h.keep q1 w1
  simp only [Int.toNat_natCast, Option.some.injEq, Prod.mk.injEq, true_and, and_true, exists_eq_left', q1 (X + 21) (by omega), bm.2.2.2.2.2.2.1]
  refine sp_X0_putSupport (k := n) I1 (by omega) k51 (by omega) (by omega) ?_
  intro H2 T1 C1 hog1 o2 w2 t0 t1
  rw [q1 (X + 23) (by omega), show hgF H1 X nb nr sx 0 = hgF H X nb nr sx 0 from funext fun j => hgF_keep q1] at hog1
  have q2 : ∀ x, x < X + 46 ∨ X + 53 < x → H2 x = H x := fun x hx => (o2 x (by omega) (by omega) (by omega)).trans (q1 x hx)
  have I2 := h.keep q2 w2
  simp only [Int.toNat_natCast, Option.some.injEq, Prod.mk.injEq, true_and, and_true, exists_eq_left', q2 (X + 21) (by omega), bm.2.2.2.2.2.2.2.1]
  rw [show (n : Int) + 1 = ((n + 1 : Nat) : Int) by omega]
  refine ⟨⟨by omega, by omega⟩, sp_X0_putSupport (k := n + 1) I2 (by omega) k52 (by omega) (by omega) ?_⟩
  intro H3 T2 C2 hog2 o3 w3 u0 u1
  rw [q2 (X + 23) (by omega), show hgF H2 X nb nr sx 0 = hgF H X nb nr sx 0 from funext fun j => hgF_keep q2] at hog2
  have q3 : ∀ x, x < X + 46 ∨ X + 53 < x → H3 x = H x := fun x hx => (o3 x (by omega) (by omega) (by omega)).trans (q2 x hx)
  have y50 : H3 (X + 50) = H1 (X + 50) := (o3 _ (by omega) (by omega) (by omega)).trans (o2 _ (by omega) (by omega) (by omega))
  have y51 : H3 (X + 51) = H2 (X + 51) := o3 _ (by omega) (by omega) (by omega)
  have hb1 := hog1.bd h6.1 (by omega) (h.hb 0)
  have hb2 := hog2.bd h6.1 (by omega) (h.hb 0)
  have Fp : 0 < sumN (freeT (H (X + 54 + 3 * n) 0) (H (X + 54 + 3 * n + 1)) (H (X + 54 + 3 * n + 2)) (H (X + 54 + 3 * n + 1) l)) ld := by
    clear hq
    refine sumN_pos (l := l) (fun j hj => ?_) hl ?_
    · have g := hk j hj
      exact (free_bd (by omega) (by omega) (by omega) (by omega) (by omega) (by omega)).2.1
    · exact Int.mul_pos (Int.mul_pos (by omega) (by omega)) (by omega)
  have eP := q3 (X + 54 + 3 * n) (by omega)
  refine rkB (by rw [q3 (X + 21) (by omega)]; exact bm) (by omega) k50 k51 k52 (by rw [eP]) gl.1.1 gl.1.2 hL.2 (by rw [y50]; exact s0) (by rw [y50]; exact s1) (by rw [y51]; exact t0) (by rw [y51]; exact t1) u0 u1 sb hb1 hb2 ?_
  intro H7 s f o7 v7 x52 rs rf s0' s1' f0 f1 fs ff
  have q7 : ∀ x, x < X + 46 ∨ X + 53 < x → H7 x = H x := fun x hx => (o7 x (by omega)).trans (q3 x hx)
  have gP := q7 (X + 54 + 3 * n) (by omega)
  have gP1 := q7 (X + 54 + 3 * n + 1) (by omega)
  have gP2 := q7 (X + 54 + 3 * n + 2) (by omega)
  refine rkC (ld := ld) (s := s) (f := f) (by rw [q7 (X + 21) (by omega)]; exact bm) (hr.cells (fun j hj => q7 _ (by omega))) (by omega) k50 k52 pk0 pk1 pk2 (by rw [gP]; exact (h2.2.2.2.2.2.2.2 n n5).1) (by rw [gP]; exact (h2.2.2.2.2.2.2.2 n n5).2) (by rw [gP]; exact hld) ld2 (by rw [gP]; exact hL) (by rw [gP]; exact gl.1) (by rw [gP, gP1, gP2]; exact hk) (by rw [gP, gP1, gP2]; exact Fp) v7 x52 rs rf s0' s1' f0 f1 ?_
  rw [gP, gP1, gP2]
  intro H9 x' y' p r c9 k9 dp dr rd9 y0 e8 e9 lp lr
  exact hq H9 T1 C1 T2 C2 p r hog1 hog2 (fun x hx hy => (c9 x hx).trans (q7 x hy)) k9 (by rw [c9 _ (by omega), o7 _ (by omega)]; exact w3) dp dr rd9 (frac_div y0 (frac_add s1'.1 f1.1 fs ff e8) e9) lp lr Fp
end Rk3
