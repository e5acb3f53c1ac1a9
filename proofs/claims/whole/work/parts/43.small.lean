/-! the small helpers of both, and how a changed section keeps the invariant -/
section Sm
variable {d : Nat} {K : Shp} {H : Mem} {X M : Nat} {q : Int → Mem → Prop} {v a b w x0 : Int}
theorem sp_X11_isFromTo (hq : q (bI (decide (a ≤ v ∧ v ≤ b))) H) : Ci mX11_isFromTo d [(0, v), (0, a), (0, b)] K H q := by
  refine eX11_isFromTo fun _ _ _ _ => bX11_isFromTo_0 ⟨fun h => ?_, fun h => ⟨fun h2 => ?_, fun h2 => ?_⟩⟩
  · rw [decide_eq_false (by omega)] at hq; exact hq
  · rw [decide_eq_false (by omega)] at hq; exact hq
  · rw [decide_eq_true (by omega)] at hq; exact hq
theorem bI_or (c : Bool) : bI c = 0 ∨ bI c = 1 := by cases c; exact Or.inl rfl; exact Or.inr rfl
theorem sp_X11_isSection (hq : q (bI (decide (0 ≤ v ∧ v ≤ 3))) H) : Ci mX11_isSection (d + 1) [(2, x0), (0, v)] K H q :=
  eX11_isSection fun _ _ => bX11_isSection_0 (sp_X11_isFromTo ⟨bI_or _, hq⟩)
theorem sp_X11_isNear (hq : q (bI (decide (-1000000 ≤ v ∧ v ≤ 1000000))) H) : Ci mX11_isNear (d + 1) [(0, v)] K H q :=
  eX11_isNear fun _ _ => bX11_isNear_0 (sp_X11_isFromTo ⟨bI_or _, hq⟩)
theorem sp_X11_refuse (hX : K[X]? = some (11, 8)) (hq : ∀ H', H' = upA H X (up1 (H X) 0 w) → q (-1) H') : Ci mX11_refuse d [(2, (X : Int)), (0, w)] K H q := by
  refine eX11_refuse fun _ _ => bX11_refuse_0 ?_
  simp only [Int.toNat_natCast, Option.some.injEq, Prod.mk.injEq, true_and, and_true, exists_eq_left', hX]
  exact ⟨by omega, hq⟩
theorem sp_X11_deny (hX : K[X]? = some (11, 8)) (hq : ∀ H', H' = upA H X (up1 (H X) 0 w) → q 0 H') : Ci mX11_deny d [(2, (X : Int)), (0, w)] K H q := by
  refine eX11_deny fun _ _ => bX11_deny_0 ?_
  simp only [Int.toNat_natCast, Option.some.injEq, Prod.mk.injEq, true_and, and_true, exists_eq_left', hX]
  exact ⟨by omega, hq⟩
theorem sp_X11_give (hX : K[X]? = some (11, 8)) (hq : ∀ H', H' = upA H X (up1 (H X) 0 0) → q v H') : Ci mX11_give d [(2, (X : Int)), (0, v)] K H q := by
  refine eX11_give fun _ _ => bX11_give_0 ?_
  simp only [Int.toNat_natCast, Option.some.injEq, Prod.mk.injEq, true_and, and_true, exists_eq_left', hX]
  exact ⟨by omega, hq⟩
theorem sp_X11_allow (hX : K[X]? = some (11, 8)) (hq : ∀ H', H' = upA H X (up1 (H X) 0 0) → q 1 H') : Ci mX11_allow d [(2, (X : Int))] K H q := by
  refine eX11_allow fun _ => bX11_allow_0 ?_
  simp only [Int.toNat_natCast, Option.some.injEq, Prod.mk.injEq, true_and, and_true, exists_eq_left', hX]
  exact ⟨by omega, hq⟩
theorem sp_X12_is0 (hM : K[M]? = some (12, 51)) (hw : w ≠ 0) (hq : ∀ H', H' = upA H M (up1 (H M) 0 w) → q 0 H') : Ci mX12_is d [(2, (M : Int)), (0, w)] K H q := by
  refine eX12_is fun _ _ => bX12_is_0 ?_
  simp only [Int.toNat_natCast, Option.some.injEq, Prod.mk.injEq, true_and, and_true, exists_eq_left', hM]
  exact ⟨by omega, fun H3 e => ⟨fun _ => hq H3 e, fun h => absurd h hw⟩⟩
theorem sp_X12_is1 (hM : K[M]? = some (12, 51)) (hq : ∀ H', H' = upA H M (up1 (H M) 0 0) → q 1 H') : Ci mX12_is d [(2, (M : Int)), (0, 0)] K H q := by
  refine eX12_is fun _ _ => bX12_is_0 ?_
  simp only [Int.toNat_natCast, Option.some.injEq, Prod.mk.injEq, true_and, and_true, exists_eq_left', hM]
  exact ⟨by omega, fun H3 e => ⟨fun h => absurd (by trivial) h, fun _ => hq H3 e⟩⟩
theorem sp_X12_refuse (hM : K[M]? = some (12, 51)) (hq : ∀ H', H' = upA H M (up1 (H M) 0 w) → q (-1) H') : Ci mX12_refuse d [(2, (M : Int)), (0, w)] K H q := by
  refine eX12_refuse fun _ _ => bX12_refuse_0 ?_
  simp only [Int.toNat_natCast, Option.some.injEq, Prod.mk.injEq, true_and, and_true, exists_eq_left', hM]
  exact ⟨by omega, hq⟩
theorem sp_X12_isSection (hq : q (bI (decide (0 ≤ v ∧ v ≤ 3))) H) : Ci mX12_isSection d [(0, v)] K H q := by
  refine eX12_isSection fun _ _ => bX12_isSection_0 ⟨fun h => ?_, fun h => ⟨fun h2 => ?_, fun h2 => ?_⟩⟩
  · rw [decide_eq_false (by omega)] at hq; exact hq
  · rw [decide_eq_false (by omega)] at hq; exact hq
  · rw [decide_eq_true (by omega)] at hq; exact hq
theorem sp_X12_isNumber (hq : q (bI (decide (-1000000 ≤ v ∧ v ≤ 1000000))) H) : Ci mX12_isNumber d [(0, v)] K H q := by
  refine eX12_isNumber fun _ _ => bX12_isNumber_0 ⟨fun h => ?_, fun h => ⟨fun h2 => ?_, fun h2 => ?_⟩⟩
  · rw [decide_eq_false (by omega)] at hq; exact hq
  · rw [decide_eq_false (by omega)] at hq; exact hq
  · rw [decide_eq_true (by omega)] at hq; exact hq
theorem sp_X11_isRod0 (hX : K[X]? = some (11, 8)) (hv : ¬ (0 ≤ v ∧ v ≤ 3)) (hq : q 0 H) : Ci mX11_isRod (d + 2) [(2, (X : Int)), (0, v), (0, w)] K H q := by
  refine eX11_isRod fun _ _ _ => bX11_isRod_0 ?_
  simp only [Int.toNat_natCast, Option.some.injEq, Prod.mk.injEq, true_and, and_true, exists_eq_left', hX]
  refine ⟨by omega, sp_X11_isSection ?_⟩
  rw [decide_eq_false hv]
  exact ⟨fun _ => hq, fun h => absurd rfl h⟩
theorem sp_X11_isRod {i s nr : Nat} (hX : K[X]? = some (11, 8)) (hi : i < 4) (hp : H X 2 = ((X + 14 : Nat) : Int)) (hK : K[X + 14]? = some (23, 4)) (hs : H (X + 14) i = (s : Int)) (hks : K[s]? = some (4, 18)) (hr : H s 7 = (nr : Int)) (h6 : nr ≤ 6) (hq : q (bI (decide (0 ≤ w ∧ w < (nr : Int)))) H) : Ci mX11_isRod (d + 2) [(2, (X : Int)), (0, (i : Int)), (0, w)] K H q := by
  refine eX11_isRod fun _ _ _ => bX11_isRod_0 ?_
  simp only [Int.toNat_natCast, Option.some.injEq, Prod.mk.injEq, true_and, and_true, exists_eq_left', hX]
  refine ⟨by omega, sp_X11_isSection ?_⟩
  rw [decide_eq_true (show 0 ≤ (i : Int) ∧ (i : Int) ≤ 3 by omega)]
  refine ⟨fun h => absurd h (by decide), fun _ => ?_⟩
  simp only [Int.toNat_natCast, Option.some.injEq, Prod.mk.injEq, true_and, and_true, exists_eq_left', hp, hK, hs, hks, hr]
  refine ⟨by omega, by omega, by omega, by omega, ⟨by omega, by omega⟩, sp_X11_isFromTo ?_⟩
  by_cases hw : 0 ≤ w ∧ w < (nr : Int)
  · rw [decide_eq_true hw] at hq
    rw [decide_eq_true (show 0 ≤ w ∧ w ≤ (nr : Int) - 1 by omega)]
    exact ⟨fun h => absurd h (by decide), fun _ => hq⟩
  · rw [decide_eq_false hw] at hq
    rw [decide_eq_false (show ¬ (0 ≤ w ∧ w ≤ (nr : Int) - 1) by omega)]
    exact ⟨fun _ => hq, fun h => absurd rfl h⟩
theorem sp_X12_isRod0 (hv : ¬ (0 ≤ v ∧ v ≤ 3)) (hq : q 0 H) : Ci mX12_isRod (d + 1) [(2, x0), (0, v), (0, w)] K H q := by
  refine eX12_isRod fun _ _ _ => bX12_isRod_0 (sp_X12_isSection ?_)
  rw [decide_eq_false hv]
  exact ⟨fun _ => hq, fun h => absurd rfl h⟩
theorem sp_X12_isRod {i nr : Nat} (hk : RefS K M) (hp : RefP (H M) M) (hi : i < 4) (hr : H (M + 9) i = (nr : Int)) (hq : q (bI (decide (0 ≤ w ∧ w < (nr : Int)))) H) : Ci mX12_isRod (d + 1) [(2, (M : Int)), (0, (i : Int)), (0, w)] K H q := by
  refine eX12_isRod fun _ _ _ => bX12_isRod_0 (sp_X12_isSection ?_)
  rw [decide_eq_true (show 0 ≤ (i : Int) ∧ (i : Int) ≤ 3 by omega)]
  refine ⟨fun h => absurd h (by decide), fun _ => ⟨fun h => ?_, fun h => ?_⟩⟩
  · rw [decide_eq_false (by omega)] at hq; exact hq
  · simp only [Int.toNat_natCast, Option.some.injEq, Prod.mk.injEq, true_and, and_true, exists_eq_left', hk.k0, hp.p13, hk.k9, hr]
    refine ⟨by omega, by omega, by omega, by omega, fun h2 => ?_, fun h2 => ?_⟩
    · rw [decide_eq_false (by omega)] at hq; exact hq
    · rw [decide_eq_true (by omega)] at hq; exact hq
end Sm
theorem SecI.keepf {K : Shp} {H H' : Mem} {s nb nr : Nat} (h : SecI K H s nb nr) (e0 : ∀ k, k < 14 ∨ k = 17 → H' s k = H s k) (e : ∀ j, 0 < j → j < 9 → j ≠ 5 → H' (s + j) = H (s + j)) (e5 : StrB (H' (s + 5)) nr) : SecI K H' s nb nr := by
  obtain ⟨hk, hp, hn, hr, hf, hz, hB, hR, hS, h2, hE⟩ := h
  unfold SecI
  rw [e 1 (by omega) (by omega) (by omega), e 2 (by omega) (by omega) (by omega), e 3 (by omega) (by omega) (by omega), e 4 (by omega) (by omega) (by omega), e 6 (by omega) (by omega) (by omega), e 7 (by omega) (by omega) (by omega), e 8 (by omega) (by omega) (by omega), e0 0 (by omega), e0 1 (by omega), e0 2 (by omega), e0 3 (by omega), e0 7 (by omega), e0 10 (by omega)]
  obtain ⟨p4, p5, p6, p8, p9, p11, p12, p13, p17⟩ := hp
  exact ⟨hk, ⟨(e0 4 (by omega)).trans p4, (e0 5 (by omega)).trans p5, (e0 6 (by omega)).trans p6, (e0 8 (by omega)).trans p8, (e0 9 (by omega)).trans p9, (e0 11 (by omega)).trans p11, (e0 12 (by omega)).trans p12, (e0 13 (by omega)).trans p13, (e0 17 (by omega)).trans p17⟩, hn, hr, hf, hz, hB, hR, e5, h2, hE⟩
/-- what a call on section i may change -/
theorem Inv.sec {K : Shp} {H H' : Mem} {X M i : Nat} (h : Inv K H X M) (hi : i < 4) (e : ∀ x k, keepP X x k → ¬ (X + 83 + 10 * i ≤ x ∧ x ≤ X + 83 + 10 * i + 9) → ¬ (M + 6 ≤ x ∧ x ≤ M + 13) → H' x k = H x k)
    (e6 : ∀ a j, 6 ≤ a → a ≤ 10 → j < 4 → j ≠ i → H' (M + a) j = H (M + a) j) (e11 : ∀ j y, j ≠ i → y < 100 → H' (M + 11) (100 * j + y) = H (M + 11) (100 * j + y)) (e12 : ∀ j r, j ≠ i → r < 6 → H' (M + 12) (6 * j + r) = H (M + 12) (6 * j + r)) (e13 : ∀ j r, j ≠ i → r < 6 → H' (M + 13) (6 * j + r) = H (M + 13) (6 * j + r))
    (hn : ∀ nb nr np nz nsp ld, Held K H X M nb nr np nz nsp ld → ∃ nb' nr', SecOk K H' M i (X + 83 + 10 * i) nb' nr' ∧ BestP (bearOf H' (X + 83 + 10 * i) nb' nr') np (H (X + 16)) (H (X + 17)) nz (H (X + 19)) (H (X + 20)) nr' (H' (X + 83 + 10 * i)) (H' (X + 83 + 10 * i + 9)))
    (hs : ScrP K H' X) (ho : OutOk H' X M) (hst : H' X 0 = H' M 0) : Inv K H' X M := by
  obtain ⟨hM, h1, h2, h3, h4, h5, ⟨nb, nr, np, nz, nsp, ld, h6⟩, h7, h8⟩ := h
  obtain ⟨nb', nr', n1, n2⟩ := hn nb nr np nz nsp ld h6
  have cl : ∀ x, (∀ k, keepP X x k) → ¬ (X + 83 + 10 * i ≤ x ∧ x ≤ X + 83 + 10 * i + 9) → ¬ (M + 6 ≤ x ∧ x ≤ M + 13) → H' x = H x := fun x a b c => funext fun k => e x k (a k) b c
  have mc : ∀ j, (15 ≤ j ∧ j ≤ 18) ∨ (20 ≤ j ∧ j ≤ 25) → H' (M + j) = H (M + j) := fun j hj => cl _ (fun k => by unfold keepP; omega) (by omega) (by omega)
  have sc : ∀ i' j, i' < 4 → i' ≠ i → j < 10 → H' (X + 83 + 10 * i' + j) = H (X + 83 + 10 * i' + j) := fun i' j hi hne hj => cl _ (fun k => by unfold keepP; omega) (by omega) (by omega)
  have pc : ∀ i j, i < 5 → j < 3 → H' (X + 54 + 3 * i + j) = H (X + 54 + 3 * i + j) := fun i j hi hj => cl _ (fun k => by unfold keepP; omega) (by omega) (by omega)
  have cc : ∀ j, (14 ≤ j ∧ j ≤ 20) ∨ (22 ≤ j ∧ j ≤ 23) → H' (X + j) = H (X + j) := fun j hj => cl _ (fun k => by unfold keepP; omega) (by omega) (by omega)
  have mk : ∀ k, k = 27 ∨ k = 28 ∨ k = 37 → H' M k = H M k := fun k hk => e M k (by unfold keepP; omega) (by omega) (by omega)
  refine ⟨hM, h1, h2, hs, ?_, ?_, ⟨fun j => if j = i then nb' else nb j, fun j => if j = i then nr' else nr j, np, nz, nsp, ld, ?_, ?_, ?_, ?_⟩, ho, hst⟩
  · obtain ⟨⟨a1, a2, a3, a4, a5, a6, a7⟩, ⟨b1, b2⟩, c, ⟨d1, d2⟩, ⟨e1, e2⟩, ⟨f1, f2, f3, f4, f5, f6, f7, f8, f9⟩, g, ii⟩ := h4
    have q : ∀ {x k : Nat} {v : Int}, keepP X x k ∧ ¬ (X + 83 + 10 * i ≤ x ∧ x ≤ X + 83 + 10 * i + 9) ∧ ¬ (M + 6 ≤ x ∧ x ≤ M + 13) → H x k = v → H' x k = v := fun hk hv => (e _ _ hk.1 hk.2.1 hk.2.2).trans hv
    refine ⟨⟨q ?_ a1, q ?_ a2, q ?_ a3, q ?_ a4, q ?_ a5, q ?_ a6, q ?_ a7⟩, ⟨q ?_ b1, q ?_ b2⟩, fun j hj => q ?_ (c j hj), ⟨q ?_ d1, q ?_ d2⟩, ⟨q ?_ e1, q ?_ e2⟩, ⟨q ?_ f1, q ?_ f2, q ?_ f3, q ?_ f4, q ?_ f5, q ?_ f6, q ?_ f7, q ?_ f8, q ?_ f9⟩, fun j hj => q ?_ (g j hj), fun j hj => ⟨q ?_ (ii j hj).1, q ?_ (ii j hj).2⟩⟩ <;> (unfold keepP; omega)
  · refine h5.cong [0, 2, 6, 7, 9, 19, 20, 21, 22, 30, 38, 39, 40, 41, 42, 43, 44, 45, 46, 47, 48, 50] rfl (fun k hk => e M k ?_ (by omega) (by omega))
    simp at hk
    unfold keepP
    omega
  · intro j hj
    by_cases ej : j = i
    · subst ej
      simp only [if_pos]
      rw [cc 16 (by omega), cc 17 (by omega), cc 19 (by omega), cc 20 (by omega)]
      exact ⟨n1, n2⟩
    · simp only [if_neg ej]
      obtain ⟨⟨a1, a2, a3⟩, a4⟩ := h6.1 j hj
      have s0 := sc j 0 hj ej (by omega)
      rw [Nat.add_zero] at s0
      have hr6 := a1.2.2.2.2.2.2.2.1.1
      refine ⟨⟨a1.keepc (fun k hk => sc j k hj ej hk), ?_, ?_⟩, ?_⟩
      · unfold RSec at *
        rw [s0, sc j 1 hj ej (by omega), sc j 2 hj ej (by omega), sc j 3 hj ej (by omega), sc j 4 hj ej (by omega), e6 6 j (by omega) (by omega) hj ej, e6 7 j (by omega) (by omega) hj ej, e6 8 j (by omega) (by omega) hj ej, e6 9 j (by omega) (by omega) hj ej, e6 10 j (by omega) (by omega) hj ej]
        exact ⟨a2.1, a2.2.1, a2.2.2.1, a2.2.2.2.1, a2.2.2.2.2.1, fun y hy => (e11 j y ej hy).trans (a2.2.2.2.2.2.1 y hy), fun r hr => (e12 j r ej (by omega)).trans (a2.2.2.2.2.2.2 r hr)⟩
      · rw [sc j 5 hj ej (by omega)]
        exact fun r hr => (e13 j r ej (by omega)).trans (a3 r hr)
      · unfold bearOf at *
        rw [cc 16 (by omega), cc 17 (by omega), cc 19 (by omega), cc 20 (by omega), s0, sc j 1 hj ej (by omega), sc j 2 hj ej (by omega), sc j 3 hj ej (by omega), sc j 4 hj ej (by omega), sc j 9 hj ej (by omega)]
        exact a4
  · have h62 := h6.2.1
    unfold PairsOk at *
    rw [cc 15 (by omega), cc 16 (by omega), cc 17 (by omega), mc 15 (by omega), mc 16 (by omega), mk 27 (by omega)]
    exact h62
  · have h62 := h6.2.2.1
    unfold SizesOk at *
    rw [cc 18 (by omega), cc 19 (by omega), cc 20 (by omega), mc 17 (by omega), mc 18 (by omega), mk 28 (by omega)]
    exact h62
  · obtain ⟨b1, b2, b3, b4, b5⟩ := h6.2.2.2
    refine ⟨(e (X + 21) 0 (by unfold keepP; omega) (by omega) (by omega)).trans b1, b2, (mk 37 (by omega)).trans b3, fun j hj => ?_, ?_⟩
    · have s0 := pc j 0 (by omega) (by omega)
      rw [Nat.add_zero] at s0
      have := b4 j hj
      unfold SpanOk at *
      rw [mc 20 (by omega), mc 21 (by omega), mc 22 (by omega), mc 23 (by omega), mc 24 (by omega), s0, pc j 1 (by omega) (by omega), pc j 2 (by omega) (by omega)]
      exact this
    · rw [mc 25 (by omega), cc 23 (by omega)]; exact b5
