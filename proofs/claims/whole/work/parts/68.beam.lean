/-! RodBeam$Span: freeTimesLength; RodBeam$Beam: putSag, putHog -/
def freeT (len : Int) (pl wt : Nat → Int) (x : Int) : Nat → Int := fun k => wt k * min x (pl k) * (len - max x (pl k))
theorem free_bd {w a b : Int} (h1 : 0 ≤ w) (h2 : w ≤ 1000) (h3 : 0 ≤ a) (h4 : a ≤ 50) (h5 : 0 ≤ b) (h6 : b ≤ 50) : (0 ≤ w * a ∧ w * a ≤ 50000) ∧ 0 ≤ w * a * b ∧ w * a * b ≤ 2500000 := by
  have a1 := mul_bd h1 h2 h3 h4
  have a2 := mul_bd a1.1 (show w * a ≤ 50000 by omega) h5 h6
  omega
theorem bend_bd {f z : Int} {bw bf bt rh us : Nat → Int} {nb nr : Nat} {hi N D P Z : Int} (hf : 1 ≤ f ∧ f ≤ 50) (hz : 0 ≤ z ∧ z ≤ 100) (hB : BandB bw bf bt nb) (hR : RodB rh nr) (hS : StrB us nr) (h : walkR f z bw bf bt nb rh us nr hi (sumN us nr) = some (N, D, P, Z)) : 0 < D ∧ D ≤ 80000 ∧ 0 ≤ N ∧ N ≤ 240000 * D := by
  have hp := pull_bd hS nr (Nat.le_refl _)
  have h6 := hR.1
  obtain ⟨⟨d0, d1⟩, -, -, -, n2⟩ := walkR_bd hf hz hB hR hS hp.1 h
  have n0 := walk_nn hf.1 hB hR hS d0 h
  have : D * (240000 + 200 * sumN us nr) ≤ D * 480000 := Int.mul_le_mul_of_nonneg_left (by omega) (by omega)
  exact ⟨d0, d1, n0, by omega⟩
section Bm
variable {d : Nat} {K : Shp} {H : Mem} {X : Nat} {q : Mem → Prop}
theorem sp_X7_free {p ld : Nat} {x : Int} {qi : Int → Mem → Prop} (kp : K[p]? = some (7, 5)) (k1 : K[p + 1]? = some (20, 2)) (k2 : K[p + 2]? = some (20, 2)) (p3 : H p 3 = ((p + 1 : Nat) : Int)) (p4 : H p 4 = ((p + 2 : Nat) : Int)) (hl : H p 2 = (ld : Int)) (hl2 : ld ≤ 2) (hL : 2 ≤ H p 0 ∧ H p 0 ≤ 50) (hx : 1 ≤ x ∧ x < H p 0)
    (hk : ∀ k, k < ld → (1 ≤ H (p + 1) k ∧ H (p + 1) k < H p 0) ∧ 1 ≤ H (p + 2) k ∧ H (p + 2) k ≤ 1000) (hq : 0 ≤ sumN (freeT (H p 0) (H (p + 1)) (H (p + 2)) x) ld → sumN (freeT (H p 0) (H (p + 1)) (H (p + 2)) x) ld ≤ 5000000 → qi (sumN (freeT (H p 0) (H (p + 1)) (H (p + 2)) x) ld) H) : Cl mX7_freeTimesLength (d + 1) [(2, (p : Int)), (0, x)] K H qi := by
  have one : ∀ k, k < ld → (0 ≤ H (p + 2) k * min x (H (p + 1) k) ∧ H (p + 2) k * min x (H (p + 1) k) ≤ 50000) ∧ 0 ≤ freeT (H p 0) (H (p + 1)) (H (p + 2)) x k ∧ freeT (H p 0) (H (p + 1)) (H (p + 2)) x k ≤ 2500000 := fun k h => by
    have g := hk k h
    exact free_bd (by omega) (by omega) (by omega) (by omega) (by omega) (by omega)
  have sb : ∀ k, k ≤ ld → 0 ≤ sumN (freeT (H p 0) (H (p + 1)) (H (p + 2)) x) k ∧ sumN (freeT (H p 0) (H (p + 1)) (H (p + 2)) x) k ≤ (k : Int) * 2500000 := fun k h => sumN_bd (fun j hj => (one j (by omega)).2)
  have loop : ∀ n k, n + k = ld → FX7_freeTimesLength_5 d K H qi (p : Int) x (sumN (freeT (H p 0) (H (p + 1)) (H (p + 2)) x) k) (k : Int) := by
    intro n
    induction n with
    | zero =>
      intro k e
      have e' : k = ld := by omega
      have s := sb ld (Nat.le_refl _)
      subst e'
      refine bX7_freeTimesLength_5 ?_
      simp only [Int.toNat_natCast, Option.some.injEq, Prod.mk.injEq, true_and, and_true, exists_eq_left', kp, hl]
      exact ⟨by omega, fun _ => hq s.1 (by omega), fun g => absurd g (by omega)⟩
    | succ n ih =>
      intro k e
      have g := hk k (by omega)
      have o := one k (by omega)
      have s := sb k (by omega)
      have m : freeT (H p 0) (H (p + 1)) (H (p + 2)) x k = H (p + 2) k * min x (H (p + 1) k) * (H p 0 - max x (H (p + 1) k)) := rfl
      refine bX7_freeTimesLength_5 ?_
      simp only [Int.toNat_natCast, Option.some.injEq, Prod.mk.injEq, true_and, and_true, exists_eq_left', kp, hl, p3, p4, k1, k2]
      rw [← m]
      refine ⟨by omega, fun h => absurd h (by omega), fun _ => ⟨by omega, by omega, by omega, ⟨by omega, by omega⟩, by omega, by omega, ⟨by omega, by omega⟩, ⟨by omega, by omega⟩, ⟨by omega, by omega⟩, ⟨by omega, by omega⟩, ih (k + 1) (by omega)⟩⟩
  exact eX7_freeTimesLength fun _ _ => bX7_freeTimesLength_0 (loop ld 0 (by omega))
set_option maxHeartbeats 1000000 in
theorem sp_X0_putSag {i t nb nr : Nat} (hS : InvS K X) (hb : BmP (H (X + 21)) X) (ha : i < 4) (hw : WkP (H (X + 46)) (X + 46)) (sI : SecI K H (X + 83 + 10 * i) nb nr) (kt : K[t]? = some (5, 2)) (t0 : X + 50 ≤ t) (t1 : t ≤ X + 53)
    (hq : ∀ H' N D P Z, walkR (H (X + 83 + 10 * i) 0) (H (X + 83 + 10 * i) 1) (H (X + 83 + 10 * i + 1)) (H (X + 83 + 10 * i + 2)) (H (X + 83 + 10 * i + 3)) nb (H (X + 83 + 10 * i + 4)) (H (X + 83 + 10 * i + 5)) nr 1 (sumN (H (X + 83 + 10 * i + 5)) nr) = some (N, D, P, Z) → (∀ x, x ≠ t → (x < X + 46 ∨ X + 49 < x) → H' x = H x) → WkP (H' (X + 46)) (X + 46) → H' t 0 = N → H' t 1 = D → q H') : Cv mX0_putSag (d + 2) [(2, ((X + 21 : Nat) : Int)), (2, ((X + 83 + 10 * i : Nat) : Int)), (2, (t : Int))] K H q := by
  have hWS := hS.2.2.2.2.2.2.2.2.2.1
  have kb := hS.2.2.2.2.2.2.1
  have p7 := hb.2.2.2.2.1
  obtain ⟨hk, hp, hn3, hr7, hf, hz, hB, hR, hS5, h2, hE⟩ := id sI
  have hfa := fareab hf hB
  have hpb := pull_bd hS5 nr (Nat.le_refl _)
  have hr6 := hR.1
  refine eX0_putSag fun _ => bX0_putSag_0 ?_
  simp only [Int.toNat_natCast, Option.some.injEq, Prod.mk.injEq, true_and, and_true, exists_eq_left', kb, hk.1, p7, hWS.1, hp.2.2.2.2.1]
  refine ⟨by omega, by omega, by omega, sp_X9_arm sI hWS hw (by omega) hk.2.2.2.2.2.1 (by omega) hS5 ?_⟩
  intro H1 a1 a2 a3
  have o1 : ∀ x, x < X + 46 ∨ X + 49 < x → H1 x = H x := fun x hx => a1 x (by omega) (by omega)
  have sI1 : SecI K H1 (X + 83 + 10 * i) nb nr := sI.keepc (fun j hj => o1 _ (by omega))
  simp only [Int.toNat_natCast, Option.some.injEq, Prod.mk.injEq, true_and, and_true, exists_eq_left', o1 (X + 21) (by omega), p7, hWS.1]
  obtain ⟨N, D, P, Z, hW⟩ := walk_some (us := H (X + 83 + 10 * i + 5)) (z := H (X + 83 + 10 * i) 1) (hi := 1) (needs := 0 + sumN (H (X + 83 + 10 * i + 5)) nr) hf.1 hB hR (by omega)
  refine ⟨by omega, sp_X9_fill sI1 hWS a2 (by omega) a3 hS5 (by omega) (by omega) (N := N) (D := D) (P := P) (Z := Z) ?_ ?_⟩
  · rw [o1 (X + 83 + 10 * i) (by omega), o1 (X + 83 + 10 * i + 1) (by omega), o1 (X + 83 + 10 * i + 2) (by omega), o1 (X + 83 + 10 * i + 3) (by omega), o1 (X + 83 + 10 * i + 4) (by omega)]
    exact hW
  · intro H2 b1 b2 b3 b4 b5
    have c2 : H2 (X + 21) = H (X + 21) := (b1 _ (by omega) (by omega)).trans (o1 _ (by omega))
    have w2 : WkP (H2 (X + 46)) (X + 46) := by rw [b1 _ (by omega) (by omega)]; exact a2
    have b2' : H2 (X + 46 + 1) 0 = N := by rw [b2]; unfold sgF; rw [if_neg (by decide)]; omega
    simp only [Int.toNat_natCast, Option.some.injEq, Prod.mk.injEq, true_and, and_true, exists_eq_left', c2, p7, hWS.1, w2.1, hWS.2.1, kt]
    rw [Int.zero_add] at hW
    refine ⟨by omega, by omega, by omega, (sp_X5_put kt).mono ?_⟩
    rintro H3 ⟨g, e3, g0, g1⟩
    exact hq H3 N D P Z hW (fun x x1 x2 => by rw [e3, upA_ne x1, b1 x (by omega) (by omega), o1 x x2]) (by rw [e3, upA_ne (by omega)]; exact w2) (by rw [e3, upA_same, g0]; exact b2') (by rw [e3, upA_same, g1]; exact b3)
set_option maxHeartbeats 1000000 in
theorem sp_X0_putHog {i t nb nr : Nat} (hS : InvS K X) (hb : BmP (H (X + 21)) X) (ha : i < 4) (hw : WkP (H (X + 46)) (X + 46)) (sI : SecI K H (X + 83 + 10 * i) nb nr) (kt : K[t]? = some (5, 2)) (t0 : X + 50 ≤ t) (t1 : t ≤ X + 53)
    (hq : ∀ H' N D P Z, walkR (H (X + 83 + 10 * i) 0) (H (X + 83 + 10 * i) 1) (H (X + 83 + 10 * i + 1)) (H (X + 83 + 10 * i + 2)) (H (X + 83 + 10 * i + 3)) nb (H (X + 83 + 10 * i + 4)) (H (X + 83 + 10 * i + 5)) nr 0 (sumN (H (X + 83 + 10 * i + 5)) nr) = some (N, D, P, Z) → (∀ x, x ≠ t → (x < X + 46 ∨ X + 49 < x) → H' x = H x) → WkP (H' (X + 46)) (X + 46) → H' t 0 = N → H' t 1 = D → q H') : Cv mX0_putHog (d + 2) [(2, ((X + 21 : Nat) : Int)), (2, ((X + 83 + 10 * i : Nat) : Int)), (2, (t : Int))] K H q := by
  have hWS := hS.2.2.2.2.2.2.2.2.2.1
  have kb := hS.2.2.2.2.2.2.1
  have p7 := hb.2.2.2.2.1
  obtain ⟨hk, hp, hn3, hr7, hf, hz, hB, hR, hS5, h2, hE⟩ := id sI
  have hfa := fareab hf hB
  have hpb := pull_bd hS5 nr (Nat.le_refl _)
  have hr6 := hR.1
  refine eX0_putHog fun _ => bX0_putHog_0 ?_
  simp only [Int.toNat_natCast, Option.some.injEq, Prod.mk.injEq, true_and, and_true, exists_eq_left', kb, hk.1, p7, hWS.1, hp.2.2.2.2.1]
  refine ⟨by omega, by omega, by omega, sp_X9_arm sI hWS hw (by omega) hk.2.2.2.2.2.1 (by omega) hS5 ?_⟩
  intro H1 a1 a2 a3
  have o1 : ∀ x, x < X + 46 ∨ X + 49 < x → H1 x = H x := fun x hx => a1 x (by omega) (by omega)
  have sI1 : SecI K H1 (X + 83 + 10 * i) nb nr := sI.keepc (fun j hj => o1 _ (by omega))
  simp only [Int.toNat_natCast, Option.some.injEq, Prod.mk.injEq, true_and, and_true, exists_eq_left', o1 (X + 21) (by omega), p7, hWS.1]
  obtain ⟨N, D, P, Z, hW⟩ := walk_some (us := H (X + 83 + 10 * i + 5)) (z := H (X + 83 + 10 * i) 1) (hi := 0) (needs := 0 + sumN (H (X + 83 + 10 * i + 5)) nr) hf.1 hB hR (by omega)
  refine ⟨by omega, sp_X9_fill sI1 hWS a2 (by omega) a3 hS5 (by omega) (by omega) (N := N) (D := D) (P := P) (Z := Z) ?_ ?_⟩
  · rw [o1 (X + 83 + 10 * i) (by omega), o1 (X + 83 + 10 * i + 1) (by omega), o1 (X + 83 + 10 * i + 2) (by omega), o1 (X + 83 + 10 * i + 3) (by omega), o1 (X + 83 + 10 * i + 4) (by omega)]
    exact hW
  · intro H2 b1 b2 b3 b4 b5
    have c2 : H2 (X + 21) = H (X + 21) := (b1 _ (by omega) (by omega)).trans (o1 _ (by omega))
    have w2 : WkP (H2 (X + 46)) (X + 46) := by rw [b1 _ (by omega) (by omega)]; exact a2
    have b2' : H2 (X + 46 + 1) 0 = -N := by rw [b2]; unfold sgF; rw [if_pos rfl]; omega
    rw [Int.zero_add] at hW
    have bd := bend_bd hf hz hB hR hS5 hW
    simp only [Int.toNat_natCast, Option.some.injEq, Prod.mk.injEq, true_and, and_true, exists_eq_left', c2, p7, hWS.1, w2.1, hWS.2.1, kt, b2', Int.neg_neg]
    refine ⟨by omega, by omega, ⟨by omega, by omega⟩, by omega, (sp_X5_put kt).mono ?_⟩
    rintro H3 ⟨g, e3, g0, g1⟩
    exact hq H3 N D P Z hW (fun x x1 x2 => by rw [e3, upA_ne x1, b1 x (by omega) (by omega), o1 x x2]) (by rw [e3, upA_ne (by omega)]; exact w2) (by rw [e3, upA_same, g0]) (by rw [e3, upA_same, g1]; exact b3)
end Bm
