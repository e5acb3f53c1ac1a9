/-! side by side: best, chosen -/
section Bs
variable {d : Nat} {K : Shp} {H : Mem} {X M i np nz nsp : Nat} {nb nr ld : Nat → Nat}
theorem Held.che (h : Inv K H X M) (hH : Held K H X M nb nr np nz nsp ld) (hi : i < 4) : ChE K H X (X + 83 + 10 * i) (nb i) (nr i) ∧ PrI K H X np ∧ TriK 6 4 K H (X + 18) ∧ H (X + 18) 0 = (nz : Int) ∧ nz ≤ 4 ∧ ∀ k, k < nz → (1 ≤ H (X + 19) k ∧ H (X + 19) k ≤ 200) ∧ 1 ≤ H (X + 20) k ∧ H (X + 20) k ≤ 10000 := by
  obtain ⟨hM, hS, hR, hScr, hC, hRP, -, -, -⟩ := h
  obtain ⟨hs, ⟨p1, p2, p3, p4⟩, ⟨q1, q2, q3, q4⟩, -⟩ := hH
  obtain ⟨k18, k19, k20⟩ := hS.2.2.2.2.2.1
  exact ⟨⟨hS, hScr.2.2.2.2.2.2, hScr.2.2.2.2.2.1, (hs i hi).1.1, by omega⟩, ⟨p1, p2, hC.2.2.2.1, fun p hp => (p4 p hp).2.2.2⟩, ⟨k18, k19, k20, hC.2.2.2.2.1.1, hC.2.2.2.2.1.2⟩, q1, q2, fun k hk => (q4 k hk).2.2⟩
theorem Held.cf {H2 : Mem} (h : Inv K H X M) (hH : Held K H X M nb nr np nz nsp ld) (hi : i < 4) (c : ∀ x, M ≤ x → H2 x = H x) : CfE K H2 M i (nb i) (nr i) np nz (H (X + 83 + 10 * i) 0) (H (X + 83 + 10 * i) 1) (H (X + 83 + 10 * i + 1)) (H (X + 83 + 10 * i + 2)) (H (X + 83 + 10 * i + 3)) (H (X + 83 + 10 * i + 4)) (H (X + 19)) (H (X + 20)) (H (X + 16)) (H (X + 17)) := by
  obtain ⟨hM, hS, hR, hScr, hC, hRP, -, -, -⟩ := h
  obtain ⟨hs, ⟨p1, p2, p3, p4⟩, ⟨q1, q2, q3, q4⟩, -⟩ := hH
  obtain ⟨⟨sI, sR, sS⟩, -⟩ := hs i hi
  obtain ⟨-, -, -, -, hf, hz, hB, hRo, -, -, -⟩ := sI
  refine ⟨hR, by rw [c M (by omega)]; exact hRP, hi, ?_, ⟨hf, hz, hB, hRo⟩, ⟨by rw [c M (by omega)]; exact p3, p2, fun p hp => ?_⟩, ⟨by rw [c M (by omega)]; exact q3, q2, fun k hk => ?_⟩⟩
  · unfold RSec at *
    rw [c (M + 6) (by omega), c (M + 7) (by omega), c (M + 8) (by omega), c (M + 9) (by omega), c (M + 10) (by omega), c (M + 11) (by omega), c (M + 12) (by omega)]
    exact sR
  · rw [c (M + 15) (by omega), c (M + 16) (by omega)]
    have := p4 p hp
    exact ⟨this.1, this.2.1, this.2.2.2⟩
  · rw [c (M + 17) (by omega), c (M + 18) (by omega)]
    have := q4 k hk
    exact ⟨⟨this.1, this.2.1⟩, this.2.2⟩
/-- BEST was found, and perhaps the section's strengths were set -/
theorem Inv.fb {H' : Mem} (h : Inv K H X M) (hH : Held K H X M nb nr np nz nsp ld) (hi : i < 4) (cc : ∀ x, x < M → x ≠ X → ¬ (X + 73 ≤ x ∧ x ≤ X + 82) → x ≠ X + 83 + 10 * i → x ≠ X + 83 + 10 * i + 5 → x ≠ X + 83 + 10 * i + 9 → H' x = H x) (cX : FO [0] (H X) (H' X)) (c73 : FO [1, 5] (H (X + 73)) (H' (X + 73))) (w74 : WkP (H' (X + 74)) (X + 74)) (cs : FO [14, 15, 16] (H (X + 83 + 10 * i)) (H' (X + 83 + 10 * i))) (c5 : StrB (H' (X + 83 + 10 * i + 5)) (nr i))
    (f1 : ∀ x, M < x → (∀ j, [1, 2, 3, 4, 13, 14, 19, 26].contains j = true → x ≠ M + j) → H' x = H x) (f2 : FO [0, 2, 6, 7, 19, 20, 21, 22, 30, 38, 39, 40, 41, 42, 43, 44, 45, 46, 47, 48, 50] (H M) (H' M)) (c13 : ∀ j r, j ≠ i → r < 6 → H' (M + 13) (6 * j + r) = H (M + 13) (6 * j + r)) (s13 : ∀ r, r < nr i → H' (M + 13) (6 * i + r) = H' (X + 83 + 10 * i + 5) r)
    (bp : BestP (bearOf H (X + 83 + 10 * i) (nb i) (nr i)) np (H (X + 16)) (H (X + 17)) nz (H (X + 19)) (H (X + 20)) (nr i) (H' (X + 83 + 10 * i)) (H' (X + 83 + 10 * i + 9))) (hst : H' X 0 = H' M 0) : Inv K H' X M := by
  have hM := h.1
  have hScr := h.2.2.2.1
  have ho := h.2.2.2.2.2.2.2.1
  have mf : ∀ j, 0 < j → j ≠ 13 → j ≠ 14 → j ≠ 19 → j ≠ 26 → 4 < j → H' (M + j) = H (M + j) := fun j h1 h2 h3 h4 h5 h6 => f1 (M + j) (by omega) (fun j' hj' e => by simp at hj'; omega)
  refine h.sec hi (fun x k hk n1 n2 => ?_) (fun a j a1 a2 _ _ => by rw [mf a (by omega) (by omega) (by omega) (by omega) (by omega) (by omega)]) (fun j y _ _ => by rw [mf 11 (by omega) (by omega) (by omega) (by omega) (by omega) (by omega)]) (fun j r _ _ => by rw [mf 12 (by omega) (by omega) (by omega) (by omega) (by omega) (by omega)]) c13 (fun nb' nr' np' nz' nsp' ld' hH' => ?_) ?_ ?_ hst
  · by_cases xM : x = M
    · subst xM
      exact f2 k (by unfold keepP at hk; simp; omega)
    · by_cases xX : x = X
      · subst xX
        exact cX k (by unfold keepP at hk; simp; omega)
      · by_cases xl : x < M
        · rw [cc x xl xX (by unfold keepP at hk; omega) (by omega) (by omega) (by omega)]
        · rw [f1 x (by omega) (fun j hj => by simp at hj; unfold keepP at hk; omega)]
  · have e1 : nb' i = nb i := by
      have a := (hH'.1 i hi).1.1.2.2.1
      have b := (hH.1 i hi).1.1.2.2.1
      omega
    have e2 : nr' i = nr i := by
      have a := (hH'.1 i hi).1.1.2.2.2.1
      have b := (hH.1 i hi).1.1.2.2.2.1
      omega
    have e3 : np' = np := by
      have a := hH'.2.1.1
      have b := hH.2.1.1
      omega
    have e4 : nz' = nz := by
      have a := hH'.2.2.1.1
      have b := hH.2.2.1.1
      omega
    obtain ⟨⟨sI, sR, sS⟩, -⟩ := hH.1 i hi
    have sc : ∀ j, 0 < j → j < 9 → j ≠ 5 → H' (X + 83 + 10 * i + j) = H (X + 83 + 10 * i + j) := fun j j1 j2 j3 => cc _ (by omega) (by omega) (by omega) (by omega) (by omega) (by omega)
    refine ⟨nb i, nr i, ⟨?_, ?_, s13⟩, ?_⟩
    · exact sI.keepf (fun k hk => cs k (by simp; omega)) (fun j j1 j2 j3 => sc j j1 j2 j3) c5
    · unfold RSec at *
      rw [mf 6 (by omega) (by omega) (by omega) (by omega) (by omega) (by omega), mf 7 (by omega) (by omega) (by omega) (by omega) (by omega) (by omega), mf 8 (by omega) (by omega) (by omega) (by omega) (by omega) (by omega), mf 9 (by omega) (by omega) (by omega) (by omega) (by omega) (by omega), mf 10 (by omega) (by omega) (by omega) (by omega) (by omega) (by omega), mf 11 (by omega) (by omega) (by omega) (by omega) (by omega) (by omega), mf 12 (by omega) (by omega) (by omega) (by omega) (by omega) (by omega), cs 0 rfl, cs 1 rfl, sc 1 (by omega) (by omega) (by omega), sc 2 (by omega) (by omega) (by omega), sc 3 (by omega) (by omega) (by omega), sc 4 (by omega) (by omega) (by omega)]
      exact sR
    · have eb : bearOf H' (X + 83 + 10 * i) (nb i) (nr i) = bearOf H (X + 83 + 10 * i) (nb i) (nr i) := by
        unfold bearOf
        rw [cs 0 rfl, cs 1 rfl, sc 1 (by omega) (by omega) (by omega), sc 2 (by omega) (by omega) (by omega), sc 3 (by omega) (by omega) (by omega), sc 4 (by omega) (by omega) (by omega)]
      rw [eb, e3, e4]
      exact bp
  · obtain ⟨a1, a2, a3, a4, a5, a6, a7⟩ := hScr
    exact ⟨a1.cells (fun j hj => cc _ (by omega) (by omega) (by omega) (by omega) (by omega) (by omega)), a2.cells (fun j hj => cc _ (by omega) (by omega) (by omega) (by omega) (by omega) (by omega)), a3.cells (fun j hj => cc _ (by omega) (by omega) (by omega) (by omega) (by omega) (by omega)), by rw [cc _ (by omega) (by omega) (by omega) (by omega) (by omega) (by omega)]; exact a4, by rw [cc _ (by omega) (by omega) (by omega) (by omega) (by omega) (by omega)]; exact a5, w74, a7.fo c73 rfl⟩
  · exact ho.keep (cc _ (by omega) (by omega) (by omega) (by omega) (by omega) (by omega)) (cc _ (by omega) (by omega) (by omega) (by omega) (by omega) (by omega)) (mf 5 (by omega) (by omega) (by omega) (by omega) (by omega) (by omega)) (f2 9 rfl)
/-- the same, where only BEST was asked for -/
theorem Inv.fb0 {G1 H2 H4 : Mem} {v : Int} {lf lo : List Nat} (h : Inv K H X M) (hH : Held K H X M nb nr np nz nsp ld) (hi : i < 4) (F : FbF X (X + 83 + 10 * i) H G1) (bp : BestP (bearOf H (X + 83 + 10 * i) (nb i) (nr i)) np (H (X + 16)) (H (X + 17)) nz (H (X + 19)) (H (X + 20)) (nr i) (G1 (X + 83 + 10 * i)) (G1 (X + 83 + 10 * i + 9)))
    (e2 : H2 = upA G1 X (up1 (G1 X) 0 v)) (f1 : FC M lf H2 H4) (f2 : FO lo (H2 M) (H4 M)) (l1 : lf.all (fun k => [0, 1, 2, 3, 4, 14, 19, 26].contains k) = true) (l2 : lo.all (fun k => [0, 2, 6, 7, 19, 20, 21, 22, 30, 38, 39, 40, 41, 42, 43, 44, 45, 46, 47, 48, 50].contains k) = true) (hst : H4 M 0 = v) : Inv K H4 X M := by
  have hM := h.1
  have g1 := f1.wide l1
  have lo4 : ∀ x, x < M → H4 x = H2 x := fun x hx => f1.lt hx
  have c2 : ∀ x, x ≠ X → H2 x = G1 x := fun x hx => by rw [e2, upA_ne hx]
  have c4 : ∀ x, x < M → x ≠ X → ¬ (X + 73 ≤ x ∧ x ≤ X + 82) → x ≠ X + 83 + 10 * i → x ≠ X + 83 + 10 * i + 9 → H4 x = H x := fun x a b c e f => by rw [lo4 x a, c2 x b, F.1 x (by omega) e f]
  have e5 := c4 (X + 83 + 10 * i + 5) (by omega) (by omega) (by omega) (by omega) (by omega)
  have eM : ∀ x, M ≤ x → H2 x = H x := fun x hx => by rw [c2 x (by omega), F.1 x (by omega) (by omega) (by omega)]
  have e13 : H4 (M + 13) = H (M + 13) := by rw [g1.at 13 rfl]; exact eM _ (by omega)
  refine h.fb hH hi (fun x a b c e _ f => c4 x a b c e f) ?_ ?_ ?_ ?_ ?_ (fun x hx hj => ?_) ?_ (fun j r _ _ => by rw [e13]) (fun r hr => ?_) ?_ ?_
  · rw [lo4 X (by omega), e2, upA_same, F.1 X (by omega) (by omega) (by omega)]; exact FO.up rfl
  · rw [lo4 _ (by omega), c2 _ (by omega)]; exact F.2.1
  · rw [lo4 _ (by omega), c2 _ (by omega)]; exact F.2.2.1
  · rw [lo4 _ (by omega), c2 _ (by omega)]; exact F.2.2.2
  · rw [e5]; exact (hH.1 i hi).1.1.2.2.2.2.2.2.2.2.1
  · rw [g1 x (fun j hj' => ?_)]
    · exact eM x (by omega)
    · by_cases j0 : j = 0
      · omega
      · exact hj j (by simp at hj' ⊢; omega)
  · rw [← eM M (by omega)]; exact f2.wide l2
  · rw [e13, e5]; exact (hH.1 i hi).1.2.2 r hr
  · rw [lo4 _ (by omega), c2 _ (by omega), lo4 (X + 83 + 10 * i + 9) (by omega), c2 (X + 83 + 10 * i + 9) (by omega)]; exact bp
  · rw [lo4 X (by omega), e2, upA_same, up1_same, hst]
end Bs
