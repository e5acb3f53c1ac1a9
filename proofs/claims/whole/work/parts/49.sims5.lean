/-! side by side: pair, clear, size, span, away, hold, load -/
def ptrP (X x k : Nat) : Prop := (x = X ∧ 1 ≤ k) ∨ (x = X + 1 ∧ 1 ≤ k) ∨ x = X + 14 ∨ (x = X + 15 ∧ 1 ≤ k) ∨ (x = X + 18 ∧ 1 ≤ k) ∨ (x = X + 21 ∧ 1 ≤ k ∧ k ≠ 5 ∧ k ≠ 6) ∨ x = X + 22 ∨ (X + 54 ≤ x ∧ x ≤ X + 68 ∧ 3 ≤ k ∧ k ≤ 4)
theorem ClsP.keep2 {X : Nat} {H H' : Mem} (h : ClsP H X) (e : ∀ x k, ptrP X x k → H' x k = H x k) : ClsP H' X := by
  obtain ⟨⟨a1, a2, a3, a4, a5, a6, a7⟩, ⟨b1, b2⟩, c, ⟨d1, d2⟩, ⟨e1, e2⟩, ⟨f1, f2, f3, f4, f5, f6, f7, f8, f9⟩, g, i⟩ := h
  have q : ∀ {x k : Nat} {v : Int}, ptrP X x k → H x k = v → H' x k = v := fun hk hv => (e _ _ hk).trans hv
  refine ⟨⟨q ?_ a1, q ?_ a2, q ?_ a3, q ?_ a4, q ?_ a5, q ?_ a6, q ?_ a7⟩, ⟨q ?_ b1, q ?_ b2⟩, fun j hj => q ?_ (c j hj), ⟨q ?_ d1, q ?_ d2⟩, ⟨q ?_ e1, q ?_ e2⟩, ⟨q ?_ f1, q ?_ f2, q ?_ f3, q ?_ f4, q ?_ f5, q ?_ f6, q ?_ f7, q ?_ f8, q ?_ f9⟩, fun j hj => q ?_ (g j hj), fun j hj => ⟨q ?_ (i j hj).1, q ?_ (i j hj).2⟩⟩ <;> (unfold ptrP; omega)
theorem SecOk.keep {K : Shp} {H H' : Mem} {M i s nb nr : Nat} (h : SecOk K H M i s nb nr) (e0 : ∀ k, k < 14 ∨ k = 17 → H' s k = H s k) (e : ∀ j, 0 < j → j < 9 → H' (s + j) = H (s + j)) (em : ∀ j, 6 ≤ j → j ≤ 13 → H' (M + j) = H (M + j)) : SecOk K H' M i s nb nr := by
  obtain ⟨a1, a2, a3⟩ := h
  refine ⟨a1.keepf e0 (fun j h1 h2 _ => e j h1 h2) (by rw [e 5 (by omega) (by omega)]; exact a1.2.2.2.2.2.2.2.2.1), ?_, ?_⟩
  · unfold RSec at *
    rw [em 6 (by omega) (by omega), em 7 (by omega) (by omega), em 8 (by omega) (by omega), em 9 (by omega) (by omega), em 10 (by omega) (by omega), em 11 (by omega) (by omega), em 12 (by omega) (by omega), e0 0 (by omega), e0 1 (by omega), e 1 (by omega) (by omega), e 2 (by omega) (by omega), e 3 (by omega) (by omega), e 4 (by omega) (by omega)]
    exact a2
  · rw [em 13 (by omega) (by omega), e 5 (by omega) (by omega)]; exact a3
theorem BeamOk.keep {H H' : Mem} {X M nsp : Nat} {ld : Nat → Nat} (h : BeamOk H X M nsp ld) (e1 : H' (X + 21) 0 = H (X + 21) 0) (e2 : H' (X + 23) = H (X + 23)) (e3 : ∀ j, j < 15 → H' (X + 54 + j) = H (X + 54 + j)) (e4 : ∀ j, 20 ≤ j → j ≤ 25 → H' (M + j) = H (M + j)) (e5 : H' M 37 = H M 37) : BeamOk H' X M nsp ld := by
  obtain ⟨b1, b2, b3, b4, b5⟩ := h
  refine ⟨e1.trans b1, b2, e5.trans b3, fun i hi => ?_, ?_⟩
  · have p0 : H' (X + 54 + 3 * i) = H (X + 54 + 3 * i) := e3 (3 * i) (by omega)
    have p1 : H' (X + 54 + 3 * i + 1) = H (X + 54 + 3 * i + 1) := e3 (3 * i + 1) (by omega)
    have p2 : H' (X + 54 + 3 * i + 2) = H (X + 54 + 3 * i + 2) := e3 (3 * i + 2) (by omega)
    have := b4 i hi
    unfold SpanOk at *
    rw [e4 20 (by omega) (by omega), e4 21 (by omega) (by omega), e4 22 (by omega) (by omega), e4 23 (by omega) (by omega), e4 24 (by omega) (by omega), p0, p1, p2]
    exact this
  · rw [e4 25 (by omega) (by omega), e2]; exact b5
section S5
variable {d : Nat} {K : Shp} {H : Mem} {X M : Nat}
theorem sp_X11_forgetBests {q : Mem → Prop} (hX : K[X]? = some (11, 8)) (hp : H X 2 = ((X + 14 : Nat) : Int)) (hK : K[X + 14]? = some (23, 4)) (hs : ∀ i, i < 4 → H (X + 14) i = ((X + 83 + 10 * i : Nat) : Int)) (hks : ∀ i, i < 4 → K[X + 83 + 10 * i]? = some (4, 18))
    (hq : ∀ H', (∀ x, (∀ i, i < 4 → x ≠ X + 83 + 10 * i) → H' x = H x) → (∀ i, i < 4 → ∀ k, k ≠ 14 → H' (X + 83 + 10 * i) k = H (X + 83 + 10 * i) k) → (∀ i, i < 4 → H' (X + 83 + 10 * i) 14 = 0) → q H') : Cv mX11_forgetBests d [(2, (X : Int))] K H q := by
  refine eX11_forgetBests fun _ => bX11_forgetBests_0 ?_
  have loop : ∀ (n i : Nat), i + n = 4 → ∀ G : Mem, (∀ x, (∀ i, i < 4 → x ≠ X + 83 + 10 * i) → G x = H x) → (∀ i, i < 4 → ∀ k, k ≠ 14 → G (X + 83 + 10 * i) k = H (X + 83 + 10 * i) k) → (∀ j, j < i → G (X + 83 + 10 * j) 14 = 0) → FX11_forgetBests_2 d K G q (X : Int) (i : Int) := by
    intro n
    induction n with
    | zero =>
      intro i hi G g0 g1 g2
      exact bX11_forgetBests_2 ⟨fun _ => hq G g0 g1 (fun j hj => g2 j (by omega)), fun g => absurd g (by omega)⟩
    | succ n ih =>
      intro i hi G g0 g1 g2
      refine bX11_forgetBests_2 ⟨fun g => absurd (by omega) g, fun _ => ?_⟩
      simp only [Int.toNat_natCast, Option.some.injEq, Prod.mk.injEq, true_and, and_true, exists_eq_left', hX, g0 X (fun i hi => by omega), hp, hK, g0 (X + 14) (fun i hi => by omega), hs i (by omega), hks i (by omega)]
      refine ⟨by omega, by omega, by omega, by omega, by omega, fun H' e' => ⟨⟨by omega, by omega⟩, ih (i + 1) (by omega) H' ?_ ?_ ?_⟩⟩
      · intro x hx; rw [e', upA_ne (hx i (by omega)), g0 x hx]
      · intro j hj k hk
        by_cases ej : j = i
        · subst ej; rw [e', upA_same, up1_ne hk, g1 j hj k hk]
        · rw [e', upA_ne (by omega), g1 j hj k hk]
      · intro j hj
        by_cases ej : j = i
        · subst ej; rw [e', upA_same, up1_same]
        · rw [e', upA_ne (by omega), g2 j (by omega)]
  exact loop 4 0 (by omega) H (fun _ _ => rfl) (fun _ _ _ _ => rfl) (fun j hj => absurd hj (by omega))
/-- all BESTS forgotten, PAIRS or SIZES changed -/
theorem Inv.forget {H' : Mem} {np nz : Nat} (h : Inv K H X M) (e : ∀ x, x ≠ X → ¬ (X + 15 ≤ x ∧ x ≤ X + 20) → (∀ i, i < 4 → x ≠ X + 83 + 10 * i) → x ≠ M → ¬ (M + 15 ≤ x ∧ x ≤ M + 18) → H' x = H x) (es : ∀ i, i < 4 → ∀ k, k ≠ 14 → H' (X + 83 + 10 * i) k = H (X + 83 + 10 * i) k) (e14 : ∀ i, i < 4 → H' (X + 83 + 10 * i) 14 = 0)
    (eX : ∀ k, 1 ≤ k → H' X k = H X k) (e15 : ∀ k, 1 ≤ k → H' (X + 15) k = H (X + 15) k) (e18 : ∀ k, 1 ≤ k → H' (X + 18) k = H (X + 18) k) (eM : FO [0, 27, 28] (H M) (H' M)) (hp : PairsOk H' X M np) (hz : SizesOk H' X M nz) (hst : H' X 0 = H' M 0) : Inv K H' X M := by
  obtain ⟨hM, h1, h2, h3, h4, h5, ⟨nb, nr, np0, nz0, nsp, ld, h6⟩, h7, h8⟩ := h
  refine ⟨hM, h1, h2, h3.cells (fun x hx => e x (by omega) (by omega) (fun i hi => by omega) (by omega) (by omega)), h4.keep2 (fun x k hk => ?_), h5.cong _ rfl eM, ⟨nb, nr, np, nz, nsp, ld, fun i hi => ⟨(h6.1 i hi).1.keep (fun k hk => es i hi k (by omega)) (fun j h1 h2 => e _ (by omega) (by omega) (fun i' hi' => by omega) (by omega) (by omega)) (fun j h1 h2 => e _ (by omega) (by omega) (fun i' hi' => by omega) (by omega) (by omega)), Or.inl (e14 i hi)⟩, hp, hz, h6.2.2.2.keep ?_ ?_ ?_ ?_ ?_⟩, h7.keep ?_ ?_ ?_ ?_, hst⟩
  · unfold ptrP at hk
    by_cases x0 : x = X
    · subst x0; exact eX k (by omega)
    · by_cases x1 : x = X + 15
      · subst x1; exact e15 k (by omega)
      · by_cases x2 : x = X + 18
        · subst x2; exact e18 k (by omega)
        · rw [e x x0 (by omega) (fun i hi => by omega) (by omega) (by omega)]
  · rw [e _ (by omega) (by omega) (fun i hi => by omega) (by omega) (by omega)]
  · rw [e _ (by omega) (by omega) (fun i hi => by omega) (by omega) (by omega)]
  · intro j hj; rw [e _ (by omega) (by omega) (fun i hi => by omega) (by omega) (by omega)]
  · intro j h1 h2; rw [e _ (by omega) (by omega) (fun i hi => by omega) (by omega) (by omega)]
  · exact eM 37 rfl
  · rw [e _ (by omega) (by omega) (fun i hi => by omega) (by omega) (by omega)]
  · rw [e _ (by omega) (by omega) (fun i hi => by omega) (by omega) (by omega)]
  · rw [e _ (by omega) (by omega) (fun i hi => by omega) (by omega) (by omega)]
  · exact eM 9 rfl
/-- the BEAM changed -/
theorem Inv.beam {H' : Mem} {nsp : Nat} {ld : Nat → Nat} (h : Inv K H X M) (e : ∀ x, x ≠ X → x ≠ X + 21 → x ≠ X + 23 → ¬ (X + 54 ≤ x ∧ x ≤ X + 68) → x ≠ M → ¬ (M + 20 ≤ x ∧ x ≤ M + 25) → H' x = H x) (eX : ∀ k, 1 ≤ k → H' X k = H X k) (e21 : ∀ k, 1 ≤ k → H' (X + 21) k = H (X + 21) k) (e54 : ∀ x k, X + 54 ≤ x → x ≤ X + 68 → 3 ≤ k → H' x k = H x k) (eM : FO [0, 37] (H M) (H' M)) (hb : BeamOk H' X M nsp ld) (hst : H' X 0 = H' M 0) : Inv K H' X M := by
  obtain ⟨hM, h1, h2, h3, h4, h5, ⟨nb, nr, np, nz, nsp0, ld0, h6⟩, h7, h8⟩ := h
  have ec : ∀ j, (14 ≤ j ∧ j ≤ 20) ∨ (83 ≤ j ∧ j ≤ 122) ∨ (129 ≤ j ∧ j ≤ 141) → H' (X + j) = H (X + j) := fun j hj => e _ (by omega) (by omega) (by omega) (by omega) (by omega) (by omega)
  have em : ∀ j, 5 ≤ j → j ≤ 18 → H' (M + j) = H (M + j) := fun j h1 h2 => e _ (by omega) (by omega) (by omega) (by omega) (by omega) (by omega)
  refine ⟨hM, h1, h2, h3.cells (fun x hx => e x (by omega) (by omega) (by omega) (by omega) (by omega) (by omega)), h4.keep2 (fun x k hk => ?_), h5.cong _ rfl eM, ⟨nb, nr, np, nz, nsp, ld, fun i hi => ?_, ?_, ?_, hb⟩, h7.keep ?_ ?_ (em 5 (by omega) (by omega)) (eM 9 rfl), hst⟩
  · unfold ptrP at hk
    by_cases x0 : x = X
    · subst x0; exact eX k (by omega)
    · by_cases x1 : x = X + 21
      · subst x1; exact e21 k (by omega)
      · by_cases x2 : X + 54 ≤ x ∧ x ≤ X + 68
        · exact e54 x k x2.1 x2.2 (by omega)
        · rw [e x x0 x1 (by omega) x2 (by omega) (by omega)]
  · have sc : ∀ j, j < 10 → H' (X + 83 + 10 * i + j) = H (X + 83 + 10 * i + j) := fun j hj => e _ (by omega) (by omega) (by omega) (by omega) (by omega) (by omega)
    have s0 := sc 0 (by omega)
    rw [Nat.add_zero] at s0
    obtain ⟨a1, a2⟩ := h6.1 i hi
    refine ⟨a1.keep (fun k _ => by rw [s0]) (fun j h1 h2 => sc j (by omega)) (fun j h1 h2 => em j (by omega) (by omega)), ?_⟩
    unfold bearOf at *
    rw [ec 16 (by omega), ec 17 (by omega), ec 19 (by omega), ec 20 (by omega), s0, sc 1 (by omega), sc 2 (by omega), sc 3 (by omega), sc 4 (by omega), sc 9 (by omega)]
    exact a2
  · have := h6.2.1
    unfold PairsOk at *
    rw [ec 15 (by omega), ec 16 (by omega), ec 17 (by omega), em 15 (by omega) (by omega), em 16 (by omega) (by omega), eM 27 rfl]
    exact this
  · have := h6.2.2.1
    unfold SizesOk at *
    rw [ec 18 (by omega), ec 19 (by omega), ec 20 (by omega), em 17 (by omega) (by omega), em 18 (by omega) (by omega), eM 28 rfl]
    exact this
  · rw [e _ (by omega) (by omega) (by omega) (by omega) (by omega) (by omega)]
  · rw [e _ (by omega) (by omega) (by omega) (by omega) (by omega) (by omega)]
variable {q : Int → Int → Mem → Prop} {a b c : Int}
set_option maxHeartbeats 2000000 in
theorem sim_pair (h : Inv K H X M) (hq : ∀ r H', Inv K H' X M → q r r H') : Ci mX11_pair (d + 12) [(2, (X : Int)), (0, a), (0, b)] K H (fun r H1 => Ci mX12_pair (d + 12) [(2, (M : Int)), (0, a), (0, b)] K H1 (fun r' H2 => q r r' H2)) := by
  have hI := h
  obtain ⟨hM, hS, hR, hScr, hC, hRP, ⟨nb, nr, np, nz, nsp, ld, hH⟩, ho, hst⟩ := hI
  have rej : ∀ w : Int, ∀ H1, H1 = upA H X (up1 (H X) 0 w) → Ci mX12_refuse (d + 11) [(2, (M : Int)), (0, w)] K H1 (fun x H2 => q (-1) x H2) := fun w H1 e1 => sp_X12_refuse hR.k0 (fun H2 e2 => hq _ _ (h.stat e1 e2))
  obtain ⟨pr0, pr1, pr2, pr3⟩ := hH.2.1
  refine eX11_pair fun _ _ _ => bX11_pair_0 (sp_X11_isNear ?_)
  by_cases ha : -1000000 ≤ a ∧ a ≤ 1000000
  · rw [decide_eq_true ha]
    refine ⟨fun g => absurd g (by decide), fun _ => sp_X11_isNear ?_⟩
    by_cases hb : -1000000 ≤ b ∧ b ≤ 1000000
    · rw [decide_eq_true hb]
      refine ⟨fun _ => ?_, fun g => absurd g (by decide)⟩
      simp only [Int.toNat_natCast, Option.some.injEq, Prod.mk.injEq, true_and, and_true, exists_eq_left', hS.1, hC.1.2.2.1, hS.2.2.2.2.1.1, pr0]
      refine ⟨by omega, by omega, fun hlt => ?_, fun hge => ?_⟩
      · refine sp_X11_forgetBests hS.1 hC.1.2.1 hS.2.2.2.1 hC.2.2.1 (fun i hi => (hH.1 i hi).1.1.1.1) ?_
        intro G g0 g1 g2
        have gc : ∀ x, x < X + 83 ∨ X + 123 ≤ x → G x = H x := fun x hx => g0 x (fun i hi => by omega)
        simp only [Int.toNat_natCast, Option.some.injEq, Prod.mk.injEq, true_and, and_true, exists_eq_left', gc X (by omega), hC.1.2.2.1, hS.2.2.2.2.1.1]
        refine ⟨by omega, Ci.to (sp_X2_add (c := np) ⟨hS.2.2.2.2.1.1, hS.2.2.2.2.1.2.1, hS.2.2.2.2.1.2.2, by rw [gc _ (by omega)]; exact hC.2.2.2.1.1, by rw [gc _ (by omega)]; exact hC.2.2.2.1.2⟩ (by rw [gc _ (by omega)]; exact pr0) (by omega)) ?_⟩
        rw [gc (X + 15) (by omega), gc (X + 15 + 1) (by omega), gc (X + 15 + 2) (by omega)]
        refine sp_X11_give hS.1 (fun H1 e1 => ?_)
        have c1 : ∀ x, x ≠ X → x ≠ X + 15 → x ≠ X + 16 → x ≠ X + 17 → H1 x = G x := fun x x0 x1 x2 x3 => by rw [e1, upA_ne x0, upA_ne x1, upA_ne (show x ≠ X + 15 + 2 by omega), upA_ne (show x ≠ X + 15 + 1 by omega)]
        have cX : H1 X = up1 (H X) 0 0 := by rw [e1, upA_same, upA_ne (by omega), upA_ne (by omega), upA_ne (by omega), gc X (by omega)]
        have c15 : H1 (X + 15) = up1 (H (X + 15)) 0 ((np : Int) + 1) := by rw [e1, upA_ne (by omega), upA_same]
        have c16 : H1 (X + 16) = up1 (H (X + 16)) np a := by rw [e1, upA_ne (by omega), upA_ne (by omega), upA_ne (by omega), show X + 15 + 1 = X + 16 from rfl, upA_same]
        have c17 : H1 (X + 17) = up1 (H (X + 17)) np b := by rw [e1, upA_ne (by omega), upA_ne (by omega), show X + 15 + 2 = X + 17 from rfl, upA_same]
        have cm : ∀ x, M ≤ x → H1 x = H x := fun x hx => by rw [c1 x (by omega) (by omega) (by omega) (by omega), gc x (by omega)]
        have cM := cm M (by omega)
        refine eX12_pair fun _ _ _ => bX12_pair_0 (sp_X12_isNumber ?_)
        rw [decide_eq_true ha]
        refine ⟨fun g => absurd g (by decide), fun _ => sp_X12_isNumber ?_⟩
        rw [decide_eq_true hb]
        refine ⟨fun _ => ?_, fun g => absurd g (by decide)⟩
        simp only [Int.toNat_natCast, Option.some.injEq, Prod.mk.injEq, true_and, and_true, exists_eq_left', hR.k0, cM, hRP.p23, hR.k15, pr2]
        refine ⟨by omega, fun _ => ⟨by omega, by omega, by omega, fun H2 e2 => ?_⟩, fun g => absurd g (by omega)⟩
        have d2 : ∀ x, x ≠ M + 15 → H2 x = H1 x := fun x hx => by rw [e2, upA_ne hx]
        have m2 : H2 M = H M := (d2 M (by omega)).trans cM
        simp only [Int.toNat_natCast, Option.some.injEq, Prod.mk.injEq, true_and, and_true, exists_eq_left', m2, hRP.p24, hR.k16, pr2]
        refine ⟨by omega, by omega, by omega, fun H3 e3 => ?_⟩
        have d3 : ∀ x, x ≠ M + 16 → H3 x = H2 x := fun x hx => by rw [e3, upA_ne hx]
        have m3 : H3 M = H M := (d3 M (by omega)).trans m2
        simp only [Int.toNat_natCast, Option.some.injEq, Prod.mk.injEq, true_and, and_true, exists_eq_left', m3, pr2]
        refine ⟨⟨by omega, by omega⟩, fun H4 e4 H5 e5 => ?_⟩
        have d5 : ∀ x, x ≠ M → H5 x = H3 x := fun x hx => by rw [e5, upA_ne hx, e4, upA_ne hx]
        have m5 : H5 M = up1 (up1 (H M) 27 ((np : Int) + 1)) 0 0 := by rw [e5, upA_same, e4, upA_same]
        have v27 : H5 M 27 = (np : Int) + 1 := by rw [m5, up1_ne (by decide), up1_same]
        rw [v27, show (np : Int) + 1 - 1 = (np : Int) by omega]
        refine ⟨⟨by omega, by omega⟩, hq _ _ ?_⟩
        have f15 : H5 (M + 15) = up1 (H (M + 15)) np a := by rw [d5 _ (by omega), d3 _ (by omega), e2, upA_same, cm _ (by omega)]
        have f16 : H5 (M + 16) = up1 (H (M + 16)) np b := by rw [d5 _ (by omega), e3, upA_same, d2 _ (by omega), cm _ (by omega)]
        have fx : ∀ x, x ≠ M → x ≠ M + 15 → x ≠ M + 16 → H5 x = H1 x := fun x x0 x1 x2 => by rw [d5 x x0, d3 x x2, d2 x x1]
        have gX : ∀ x, x < X + 83 + 40 → x ≠ X → x ≠ X + 15 → x ≠ X + 16 → x ≠ X + 17 → H5 x = G x := fun x hx x0 x1 x2 x3 => by rw [fx x (by omega) (by omega) (by omega), c1 x x0 x1 x2 x3]
        refine h.forget (np := np + 1) (nz := nz) ?_ ?_ ?_ ?_ ?_ ?_ ?_ ?_ ?_ ?_
        · intro x x0 x1 x2 x3 x4
          rw [fx x x3 (by omega) (by omega), c1 x x0 (by omega) (by omega) (by omega), g0 x x2]
        · intro i hi k hk; rw [gX _ (by omega) (by omega) (by omega) (by omega) (by omega), g1 i hi k hk]
        · intro i hi; rw [gX _ (by omega) (by omega) (by omega) (by omega) (by omega), g2 i hi]
        · intro k hk; rw [fx X (by omega) (by omega) (by omega), cX, up1_ne (by omega)]
        · intro k hk; rw [fx _ (by omega) (by omega) (by omega), c15, up1_ne (by omega)]
        · intro k hk; rw [gX _ (by omega) (by omega) (by omega) (by omega) (by omega), gc _ (by omega)]
        · rw [m5]; exact (FO.up (l := [0, 27, 28]) rfl).same (FO.up rfl)
        · refine ⟨by rw [fx _ (by omega) (by omega) (by omega), c15, up1_same]; rfl, by omega, v27, fun p hp => ?_⟩
          rw [f15, f16, fx (X + 16) (by omega) (by omega) (by omega), fx (X + 17) (by omega) (by omega) (by omega), c16, c17]
          by_cases ep : p = np
          · subst ep; rw [up1_same, up1_same, up1_same, up1_same]; exact ⟨rfl, rfl, ha, hb⟩
          · rw [up1_ne ep, up1_ne ep, up1_ne ep, up1_ne ep]; exact pr3 p (by omega)
        · have := hH.2.2.1
          unfold SizesOk at *
          rw [gX (X + 18) (by omega) (by omega) (by omega) (by omega) (by omega), gX (X + 19) (by omega) (by omega) (by omega) (by omega) (by omega), gX (X + 20) (by omega) (by omega) (by omega) (by omega) (by omega), gc (X + 18) (by omega), gc (X + 19) (by omega), gc (X + 20) (by omega), fx (M + 17) (by omega) (by omega) (by omega), fx (M + 18) (by omega) (by omega) (by omega), cm (M + 17) (by omega), cm (M + 18) (by omega), m5, up1_ne (by decide), up1_ne (by decide)]
          exact this
        · rw [m5, up1_same, fx X (by omega) (by omega) (by omega), cX, up1_same]
      · refine sp_X11_refuse hS.1 (fun H1 e1 => ?_)
        have rr := rej 3 H1 e1
        have c1 : ∀ x, x ≠ X → H1 x = H x := fun x hx => by rw [e1, upA_ne hx]
        refine eX12_pair fun _ _ _ => bX12_pair_0 (sp_X12_isNumber ?_)
        rw [decide_eq_true ha]
        refine ⟨fun g => absurd g (by decide), fun _ => sp_X12_isNumber ?_⟩
        rw [decide_eq_true hb]
        refine ⟨fun _ => ?_, fun g => absurd g (by decide)⟩
        simp only [Int.toNat_natCast, Option.some.injEq, Prod.mk.injEq, true_and, and_true, exists_eq_left', hR.k0, c1 M (by omega), pr2]
        exact ⟨by omega, fun g => absurd (by omega) g, fun _ => rr⟩
    · rw [decide_eq_false hb]
      simp only [Int.toNat_natCast, Option.some.injEq, Prod.mk.injEq, true_and, and_true, exists_eq_left', hS.1]
      refine ⟨fun g => absurd rfl g, fun _ => ⟨by omega, sp_X11_refuse hS.1 (fun H1 e1 => ?_)⟩⟩
      have rr := rej 2 H1 e1
      refine eX12_pair fun _ _ _ => bX12_pair_0 (sp_X12_isNumber ?_)
      rw [decide_eq_true ha]
      refine ⟨fun g => absurd g (by decide), fun _ => sp_X12_isNumber ?_⟩
      rw [decide_eq_false hb]
      simp only [Int.toNat_natCast, Option.some.injEq, Prod.mk.injEq, true_and, and_true, exists_eq_left', hR.k0]
      exact ⟨fun g => absurd rfl g, fun _ => ⟨by omega, rr⟩⟩
  · rw [decide_eq_false ha]
    simp only [Int.toNat_natCast, Option.some.injEq, Prod.mk.injEq, true_and, and_true, exists_eq_left', hS.1]
    refine ⟨fun _ => ⟨by omega, sp_X11_refuse hS.1 (fun H1 e1 => ?_)⟩, fun g => absurd rfl g⟩
    have rr := rej 2 H1 e1
    refine eX12_pair fun _ _ _ => bX12_pair_0 (sp_X12_isNumber ?_)
    rw [decide_eq_false ha]
    simp only [Int.toNat_natCast, Option.some.injEq, Prod.mk.injEq, true_and, and_true, exists_eq_left', hR.k0]
    exact ⟨fun _ => ⟨by omega, rr⟩, fun g => absurd rfl g⟩
end S5
