/-! side by side: load -/
section S7
variable {d : Nat} {K : Shp} {H : Mem} {X M : Nat} {q : Int → Int → Mem → Prop} {a b c : Int}
theorem sp_X11_isSpan {n : Nat} {qi : Int → Mem → Prop} (hX : K[X]? = some (11, 8)) (hp : H X 5 = ((X + 21 : Nat) : Int)) (hK : K[X + 21]? = some (0, 12)) (hc : H (X + 21) 0 = (n : Int)) (hn : n ≤ 5) (hq : qi (bI (decide (0 ≤ a ∧ a < (n : Int)))) H) : Ci mX11_isSpan (d + 1) [(2, (X : Int)), (0, a)] K H qi := by
  refine eX11_isSpan fun _ _ => bX11_isSpan_0 ?_
  simp only [Int.toNat_natCast, Option.some.injEq, Prod.mk.injEq, true_and, and_true, exists_eq_left', hX, hp, hK, hc]
  refine ⟨by omega, by omega, ⟨by omega, by omega⟩, sp_X11_isFromTo ⟨bI_or _, ?_⟩⟩
  by_cases g : 0 ≤ a ∧ a < (n : Int)
  · rw [decide_eq_true g] at hq
    rw [decide_eq_true (show 0 ≤ a ∧ a ≤ (n : Int) - 1 by omega)]; exact hq
  · rw [decide_eq_false g] at hq
    rw [decide_eq_false (show ¬ (0 ≤ a ∧ a ≤ (n : Int) - 1) by omega)]; exact hq
theorem sp_X12_isSpan {n : Nat} {qi : Int → Mem → Prop} (hM : K[M]? = some (12, 51)) (hc : H M 37 = (n : Int)) (hq : qi (bI (decide (0 ≤ a ∧ a < (n : Int)))) H) : Ci mX12_isSpan d [(2, (M : Int)), (0, a)] K H qi := by
  refine eX12_isSpan fun _ _ => bX12_isSpan_0 ⟨fun g => ?_, fun g => ?_⟩
  · rw [decide_eq_false (by omega)] at hq; exact hq
  · simp only [Int.toNat_natCast, Option.some.injEq, Prod.mk.injEq, true_and, and_true, exists_eq_left', hM, hc]
    refine ⟨by omega, fun g2 => ?_, fun g2 => ?_⟩
    · rw [decide_eq_false (by omega)] at hq; exact hq
    · rw [decide_eq_true (by omega)] at hq; exact hq
theorem sp_X7_hasLoadAt {p n : Nat} {qi : Int → Mem → Prop} (hK : K[p]? = some (7, 5)) (hp : H p 3 = ((p + 1 : Nat) : Int)) (hK1 : K[p + 1]? = some (20, 2)) (hn : H p 2 = (n : Int)) (h2 : n ≤ 2) (hq : qi (bI (anyF (fun k => decide (H (p + 1) k = a)) 0 n)) H) : Ci mX7_hasLoadAt d [(2, (p : Int)), (0, a)] K H qi := by
  refine eX7_hasLoadAt fun _ _ => bX7_hasLoadAt_0 ?_
  have loop : ∀ (m k : Nat) (c : Bool), k + m = n → anyF (fun k => decide (H (p + 1) k = a)) 0 n = (c || anyF (fun k => decide (H (p + 1) k = a)) k m) → FX7_hasLoadAt_4 d K H qi (p : Int) a (bI c) (k : Int) := by
    intro m
    induction m with
    | zero =>
      intro k c hk hc
      simp only [anyF, Bool.or_false] at hc
      rw [hc] at hq
      refine bX7_hasLoadAt_4 ?_
      simp only [Int.toNat_natCast, Option.some.injEq, Prod.mk.injEq, true_and, and_true, exists_eq_left', hK, hn]
      exact ⟨by omega, fun _ => ⟨bI_or c, hq⟩, fun g => absurd g (by omega)⟩
    | succ m ih =>
      intro k c hk hc
      refine bX7_hasLoadAt_4 ?_
      simp only [Int.toNat_natCast, Option.some.injEq, Prod.mk.injEq, true_and, and_true, exists_eq_left', hK, hn, hp, hK1]
      refine ⟨by omega, fun g => absurd (by omega) g, fun _ => ?_⟩
      cases c with
      | true => exact ⟨fun _ => ⟨⟨by omega, by omega⟩, ih (k + 1) true (by omega) (by rw [hc]; simp)⟩, fun g => absurd g (by decide)⟩
      | false =>
        refine ⟨fun g => absurd rfl g, fun _ => ⟨by omega, by omega, by omega, fun g => ⟨⟨by omega, by omega⟩, ih (k + 1) false (by omega) ?_⟩, fun g => ⟨⟨by omega, by omega⟩, ih (k + 1) true (by omega) ?_⟩⟩⟩
        · rw [hc]; simp [anyF, g]
        · rw [hc]; simp [anyF, g]
  exact loop n 0 false (by omega) (by simp)
theorem sp_X7_addLoad {p n : Nat} {qi : Int → Mem → Prop} (hK : K[p]? = some (7, 5)) (hp : H p 3 = ((p + 1 : Nat) : Int)) (hp4 : H p 4 = ((p + 2 : Nat) : Int)) (hK1 : K[p + 1]? = some (20, 2)) (hK2 : K[p + 2]? = some (20, 2)) (hn : H p 2 = (n : Int)) (h2 : n < 2)
    (hq : ∀ H', (∀ x, x ≠ p → x ≠ p + 1 → x ≠ p + 2 → H' x = H x) → H' p = up1 (H p) 2 ((n : Int) + 1) → H' (p + 1) = up1 (H (p + 1)) n a → H' (p + 2) = up1 (H (p + 2)) n b → qi (n : Int) H') : Ci mX7_addLoad d [(2, (p : Int)), (0, a), (0, b)] K H qi := by
  refine eX7_addLoad fun _ _ _ => bX7_addLoad_0 ?_
  simp only [Int.toNat_natCast, Option.some.injEq, Prod.mk.injEq, true_and, and_true, exists_eq_left', hK, hp, hK1, hn]
  refine ⟨by omega, by omega, by omega, by omega, fun H1 e1 => ?_⟩
  have c1 : ∀ x, x ≠ p + 1 → H1 x = H x := fun x hx => by rw [e1, upA_ne hx]
  simp only [Int.toNat_natCast, Option.some.injEq, Prod.mk.injEq, true_and, and_true, exists_eq_left', c1 p (by omega), hp4, hK2, hn]
  refine ⟨by omega, by omega, by omega, fun H2 e2 => ?_⟩
  have c2 : ∀ x, x ≠ p + 2 → H2 x = H1 x := fun x hx => by rw [e2, upA_ne hx]
  have s2 : H2 p = H p := (c2 p (by omega)).trans (c1 p (by omega))
  simp only [Int.toNat_natCast, Option.some.injEq, Prod.mk.injEq, true_and, and_true, exists_eq_left', s2, hn]
  refine ⟨⟨by omega, by omega⟩, fun H3 e3 => ?_⟩
  have v : H3 p = up1 (H p) 2 ((n : Int) + 1) := by rw [e3, upA_same]
  rw [v, up1_same, show (n : Int) + 1 - 1 = (n : Int) by omega]
  refine ⟨⟨by omega, by omega⟩, hq H3 (fun x x0 x1 x2 => by rw [e3, upA_ne x0, c2 x x2, c1 x x1]) v ?_ ?_⟩
  · rw [e3, upA_ne (by omega), c2 _ (by omega), e1, upA_same]
  · rw [e3, upA_ne (by omega), e2, upA_same, c1 _ (by omega)]
set_option maxHeartbeats 2000000 in
theorem sim_load (h : Inv K H X M) (hq : ∀ r H', Inv K H' X M → q r r H') : Ci mX11_load (d + 12) [(2, (X : Int)), (0, a), (0, b), (0, c)] K H (fun r H1 => Ci mX12_load (d + 12) [(2, (M : Int)), (0, a), (0, b), (0, c)] K H1 (fun r' H2 => q r r' H2)) := by
  have hI := h
  obtain ⟨hM, hS, hR, hScr, hC, hRP, ⟨nb, nr, np, nz, nsp, ld, hH⟩, ho, hst⟩ := hI
  have rej : ∀ w : Int, ∀ H1, H1 = upA H X (up1 (H X) 0 w) → Ci mX12_refuse (d + 11) [(2, (M : Int)), (0, w)] K H1 (fun x H2 => q (-1) x H2) := fun w H1 e1 => sp_X12_refuse hR.k0 (fun H2 e2 => hq _ _ (h.stat e1 e2))
  obtain ⟨b1, b2, b3, b4, b5⟩ := hH.2.2.2
  refine eX11_load fun _ _ _ _ => bX11_load_0 ?_
  simp only [Int.toNat_natCast, Option.some.injEq, Prod.mk.injEq, true_and, and_true, exists_eq_left', hS.1]
  refine ⟨by omega, sp_X11_isSpan hS.1 hC.1.2.2.2.2.1 hS.2.2.2.2.2.2.1 b1 b2 ?_⟩
  by_cases ha : 0 ≤ a ∧ a < (nsp : Int)
  · rw [decide_eq_true ha]
    obtain ⟨i, rfl⟩ : ∃ i : Nat, a = (i : Int) := ⟨a.toNat, by omega⟩
    have hi : i < nsp := by omega
    have hi5 : i < 5 := by omega
    have hsp := b4 i hi
    have hsp' := hsp
    obtain ⟨s1, s2, s3, s4, s5, s6, s7, s8⟩ := hsp'
    obtain ⟨t0, t1, t2⟩ := hS.2.2.2.2.2.2.2.2.2.2.2.1 i hi5
    obtain ⟨u1, u2⟩ := hC.2.2.2.2.2.2.2 i hi5
    refine ⟨fun _ => ?_, fun g => absurd g (by decide)⟩
    simp only [Int.toNat_natCast, Option.some.injEq, Prod.mk.injEq, true_and, and_true, exists_eq_left', hC.1.2.2.2.2.1, hS.2.2.2.2.2.2.1, hC.2.2.2.2.2.1.1, hS.2.2.2.2.2.2.2.1, hC.2.2.2.2.2.2.1 i hi5, t0]
    refine ⟨by omega, by omega, by omega, by omega, by omega, ⟨by omega, by omega⟩, sp_X11_isFromTo ?_⟩
    have rf2 : ¬ ((1 ≤ b ∧ b < H (X + 54 + 3 * i) 0) ∧ 1 ≤ c ∧ c ≤ 1000) → Ci mX11_refuse (d + 11) [(2, (X : Int)), (0, 2)] K H (fun x H1 => Ci mX12_load (d + 12) [(2, (M : Int)), (0, (i : Int)), (0, b), (0, c)] K H1 (fun r' H2 => q x r' H2)) := by
      intro hne
      refine sp_X11_refuse hS.1 (fun H1 e1 => ?_)
      have rr := rej 2 H1 e1
      have c1 : ∀ x, x ≠ X → H1 x = H x := fun x hx => by rw [e1, upA_ne hx]
      refine eX12_load fun _ _ _ _ => bX12_load_0 ?_
      simp only [Int.toNat_natCast, Option.some.injEq, Prod.mk.injEq, true_and, and_true, exists_eq_left', hR.k0]
      refine ⟨by omega, sp_X12_isSpan hR.k0 (n := nsp) (by rw [c1 M (by omega)]; exact b3) ?_⟩
      rw [decide_eq_true ha]
      simp only [Int.toNat_natCast, Option.some.injEq, Prod.mk.injEq, true_and, and_true, exists_eq_left', c1 M (by omega), hRP.p31, hR.k20, c1 (M + 20) (by omega), s1]
      refine ⟨fun _ => ⟨fun _ => rr, fun g1 => ⟨by omega, by omega, by omega, fun _ => rr, fun g2 => ⟨fun _ => rr, fun g3 => ⟨fun g4 => absurd ⟨⟨by omega, g2⟩, by omega, g4⟩ hne, fun _ => rr⟩⟩⟩⟩, fun g => absurd g (by decide)⟩
    by_cases hb : 1 ≤ b ∧ b ≤ H (X + 54 + 3 * i) 0 - 1
    · rw [decide_eq_true hb]
      refine ⟨fun g => absurd g (by decide), fun _ => sp_X11_isFromTo ?_⟩
      by_cases hc : 1 ≤ c ∧ c ≤ 1000
      · rw [decide_eq_true hc]
        refine ⟨fun _ => ?_, fun g => absurd g (by decide)⟩
        have rfo : ∀ H1, (∀ x, M ≤ x → H1 x = H x) → ∀ {q' : Int → Mem → Prop}, ((¬ (ld i : Int) = 2 → FX12_load_66 (d + 11) K H1 q' (M : Int) (i : Int) b c 0) ∧ ((ld i : Int) = 2 → Ci mX12_refuse (d + 11) [(2, (M : Int)), (0, 3)] K H1 (fun x H => q' x H))) → Ci mX12_load (d + 12) [(2, (M : Int)), (0, (i : Int)), (0, b), (0, c)] K H1 q' := by
          intro H1 c1 q' hh
          refine eX12_load fun _ _ _ _ => bX12_load_0 ?_
          simp only [Int.toNat_natCast, Option.some.injEq, Prod.mk.injEq, true_and, and_true, exists_eq_left', hR.k0]
          refine ⟨by omega, sp_X12_isSpan hR.k0 (n := nsp) (by rw [c1 M (by omega)]; exact b3) ?_⟩
          rw [decide_eq_true ha]
          simp only [Int.toNat_natCast, Option.some.injEq, Prod.mk.injEq, true_and, and_true, exists_eq_left', c1 M (by omega), hRP.p31, hR.k20, c1 (M + 20) (by omega), s1, hRP.p33, hR.k22, c1 (M + 22) (by omega), s5]
          exact ⟨fun _ => ⟨fun g => absurd g (by omega), fun _ => ⟨by omega, by omega, by omega, fun g => absurd (by omega) g, fun _ => ⟨fun g => absurd g (by omega), fun _ => ⟨fun _ => ⟨by omega, by omega, hh⟩, fun g => absurd hc.2 g⟩⟩⟩⟩, fun g => absurd g (by decide)⟩
        have rfl66 : ∀ (H1 : Mem), (∀ x, M ≤ x → H1 x = H x) → ∀ {q' : Int → Mem → Prop}, (anyF (fun k => decide (H (X + 54 + 3 * i + 1) k = b)) 0 (ld i) = true → Ci mX12_refuse (d + 11) [(2, (M : Int)), (0, 7)] K H1 (fun x H => q' x H)) → (anyF (fun k => decide (H (X + 54 + 3 * i + 1) k = b)) 0 (ld i) = false → FX12_load_66 (d + 11) K H1 q' (M : Int) (i : Int) b c ((ld i : Nat) : Int)) → FX12_load_66 (d + 11) K H1 q' (M : Int) (i : Int) b c 0 := by
          intro H1 c1 q' h7 hend
          have loop : ∀ (m k : Nat), k + m = ld i → anyF (fun k => decide (H (X + 54 + 3 * i + 1) k = b)) 0 (ld i) = anyF (fun k => decide (H (X + 54 + 3 * i + 1) k = b)) k m → FX12_load_66 (d + 11) K H1 q' (M : Int) (i : Int) b c (k : Int) := by
            intro m
            induction m with
            | zero =>
              intro k hk he
              have ek : k = ld i := by omega
              rw [ek]
              exact hend (by rw [he]; rfl)
            | succ m ih =>
              intro k hk he
              have e2 : (2 * (i : Int) + (k : Int)).toNat = 2 * i + k := by omega
              refine bX12_load_66 ?_
              simp only [Int.toNat_natCast, Option.some.injEq, Prod.mk.injEq, true_and, and_true, exists_eq_left', hR.k0, c1 M (by omega), hRP.p33, hR.k22, c1 (M + 22) (by omega), s5, hRP.p34, hR.k23, e2, c1 (M + 23) (by omega), (s8 k (by omega)).1]
              refine ⟨by omega, by omega, by omega, by omega, fun g => absurd (by omega) g, fun _ => ⟨⟨by omega, by omega⟩, ⟨by omega, by omega⟩, by omega, by omega, by omega, fun g => ⟨⟨by omega, by omega⟩, ih (k + 1) (by omega) ?_⟩, fun g => h7 ?_⟩⟩
              · rw [he]; simp [anyF, g]
              · rw [he]; simp [anyF, g]
          exact loop (ld i) 0 (by omega) rfl
        rw [s6]
        refine ⟨fun hlt => sp_X7_hasLoadAt t0 u1 t1 s6 s7 ?_, fun hge => sp_X11_refuse hS.1 (fun H1 e1 => ?_)⟩
        · cases hany : anyF (fun k => decide (H (X + 54 + 3 * i + 1) k = b)) 0 (ld i) with
          | true =>
            refine ⟨fun g => absurd g (by decide), fun _ => sp_X11_refuse hS.1 (fun H1 e1 => ?_)⟩
            have c1 : ∀ x, M ≤ x → H1 x = H x := fun x hx => by rw [e1, upA_ne (by omega)]
            exact rfo H1 c1 ⟨fun _ => rfl66 H1 c1 (fun _ => rej 7 H1 e1) (fun g => by rw [hany] at g; cases g), fun g => absurd g (by omega)⟩
          | false =>
            refine ⟨fun _ => sp_X7_addLoad t0 u1 u2 t1 t2 s6 (by omega) ?_, fun g => absurd rfl g⟩
            intro G g0 g1 g2 g3
            refine sp_X11_give hS.1 (fun H1 e1 => ?_)
            have c1 : ∀ x, x ≠ X → x ≠ X + 54 + 3 * i → x ≠ X + 54 + 3 * i + 1 → x ≠ X + 54 + 3 * i + 2 → H1 x = H x := fun x x0 x1 x2 x3 => by rw [e1, upA_ne x0, g0 x x1 x2 x3]
            have cX : H1 X = up1 (H X) 0 0 := by rw [e1, upA_same, g0 X (by omega) (by omega) (by omega)]
            have k0 : H1 (X + 54 + 3 * i) = up1 (H (X + 54 + 3 * i)) 2 ((ld i : Int) + 1) := by rw [e1, upA_ne (by omega), g1]
            have k1 : H1 (X + 54 + 3 * i + 1) = up1 (H (X + 54 + 3 * i + 1)) (ld i) b := by rw [e1, upA_ne (by omega), g2]
            have k2 : H1 (X + 54 + 3 * i + 2) = up1 (H (X + 54 + 3 * i + 2)) (ld i) c := by rw [e1, upA_ne (by omega), g3]
            have cm : ∀ x, M ≤ x → H1 x = H x := fun x hx => c1 x (by omega) (by omega) (by omega) (by omega)
            refine rfo H1 cm ⟨fun _ => rfl66 H1 cm (fun g => by rw [hany] at g; cases g) (fun _ => ?_), fun g => absurd g (by omega)⟩
            have e2 : (2 * (i : Int) + (ld i : Int)).toNat = 2 * i + ld i := by omega
            refine bX12_load_66 ?_
            simp only [Int.toNat_natCast, Option.some.injEq, Prod.mk.injEq, true_and, and_true, exists_eq_left', hR.k0, cm M (by omega), hRP.p33, hR.k22, cm (M + 22) (by omega), s5, hRP.p34, hR.k23, e2]
            refine ⟨by omega, by omega, by omega, by omega, fun _ => ⟨⟨by omega, by omega⟩, ⟨by omega, by omega⟩, by omega, by omega, by omega, fun H2 f2 => ?_⟩, fun g => absurd g (by omega)⟩
            have d2 : ∀ x, x ≠ M + 23 → H2 x = H1 x := fun x hx => by rw [f2, upA_ne hx]
            have m2 : H2 M = H M := (d2 M (by omega)).trans (cm M (by omega))
            have n2 : H2 (M + 22) = H (M + 22) := (d2 _ (by omega)).trans (cm _ (by omega))
            simp only [Int.toNat_natCast, Option.some.injEq, Prod.mk.injEq, true_and, and_true, exists_eq_left', m2, hRP.p33, hR.k22, n2, s5, hRP.p35, hR.k24, e2]
            refine ⟨by omega, by omega, ⟨by omega, by omega⟩, by omega, by omega, by omega, fun H3 f3 => ?_⟩
            have d3 : ∀ x, x ≠ M + 24 → H3 x = H2 x := fun x hx => by rw [f3, upA_ne hx]
            have m3 : H3 M = H M := (d3 M (by omega)).trans m2
            have n3 : H3 (M + 22) = H (M + 22) := (d3 _ (by omega)).trans n2
            simp only [Int.toNat_natCast, Option.some.injEq, Prod.mk.injEq, true_and, and_true, exists_eq_left', m3, hRP.p33, hR.k22, n3, s5]
            refine ⟨by omega, by omega, ⟨by omega, by omega⟩, fun H4 f4 H5 f5 => ?_⟩
            have d4 : ∀ x, x ≠ M + 22 → H4 x = H3 x := fun x hx => by rw [f4, upA_ne hx]
            have d5 : ∀ x, x ≠ M → H5 x = H4 x := fun x hx => by rw [f5, upA_ne hx]
            have m5 : H5 M = up1 (H M) 0 0 := by rw [f5, upA_same, d4 M (by omega), m3]
            have p33 : H5 M 33 = ((M + 22 : Nat) : Int) := by rw [m5, up1_ne (by decide)]; exact hRP.p33
            have n5 : H5 (M + 22) = up1 (H (M + 22)) i ((ld i : Int) + 1) := by rw [d5 _ (by omega), f4, upA_same]
            simp only [Int.toNat_natCast, Option.some.injEq, Prod.mk.injEq, true_and, and_true, exists_eq_left', p33, hR.k22, n5, up1_same]
            rw [show (ld i : Int) + 1 - 1 = (ld i : Int) by omega]
            refine ⟨by omega, by omega, ⟨by omega, by omega⟩, hq _ _ ?_⟩
            have v23 : H5 (M + 23) = up1 (H (M + 23)) (2 * i + ld i) b := by rw [d5 _ (by omega), d4 _ (by omega), d3 _ (by omega), f2, upA_same, cm _ (by omega)]
            have v24 : H5 (M + 24) = up1 (H (M + 24)) (2 * i + ld i) c := by rw [d5 _ (by omega), d4 _ (by omega), f3, upA_same, d2 _ (by omega), cm _ (by omega)]
            have fx : ∀ x, x ≠ M → x ≠ M + 22 → x ≠ M + 23 → x ≠ M + 24 → H5 x = H1 x := fun x x0 x1 x2 x3 => by rw [d5 x x0, d4 x x1, d3 x x3, d2 x x2]
            refine h.beam (nsp := nsp) (ld := fun j => if j = i then ld i + 1 else ld j) ?_ ?_ ?_ ?_ ?_ ?_ ?_
            · intro x x0 x1 x2 x3 x4 x5; rw [fx x x4 (by omega) (by omega) (by omega), c1 x x0 (by omega) (by omega) (by omega)]
            · intro k hk; rw [fx X (by omega) (by omega) (by omega) (by omega), cX, up1_ne (by omega)]
            · intro k hk; rw [fx _ (by omega) (by omega) (by omega) (by omega), c1 _ (by omega) (by omega) (by omega) (by omega)]
            · intro x k h1 h2 h3
              rw [fx x (by omega) (by omega) (by omega) (by omega)]
              by_cases ex : x = X + 54 + 3 * i
              · subst ex; rw [k0, up1_ne (by omega)]
              · by_cases ex1 : x = X + 54 + 3 * i + 1
                · subst ex1; rw [k1, up1_ne (by omega)]
                · by_cases ex2 : x = X + 54 + 3 * i + 2
                  · subst ex2; rw [k2, up1_ne (by omega)]
                  · rw [c1 x (by omega) ex ex1 ex2]
            · rw [m5]; exact FO.up rfl
            · refine ⟨by rw [fx _ (by omega) (by omega) (by omega) (by omega), c1 _ (by omega) (by omega) (by omega) (by omega)]; exact b1, b2, by rw [m5, up1_ne (by decide)]; exact b3, fun j hj => ?_, ?_⟩
              · have f20 : H5 (M + 20) = H (M + 20) := by rw [fx _ (by omega) (by omega) (by omega) (by omega), cm _ (by omega)]
                have f21 : H5 (M + 21) = H (M + 21) := by rw [fx _ (by omega) (by omega) (by omega) (by omega), cm _ (by omega)]
                by_cases ej : j = i
                · subst ej
                  simp only [if_pos]
                  unfold SpanOk
                  rw [f20, f21, n5, v23, v24, fx (X + 54 + 3 * j) (by omega) (by omega) (by omega) (by omega), fx (X + 54 + 3 * j + 1) (by omega) (by omega) (by omega) (by omega), fx (X + 54 + 3 * j + 2) (by omega) (by omega) (by omega) (by omega), k0, k1, k2, up1_same, up1_same, up1_ne (show (0 : Nat) ≠ 2 by decide), up1_ne (show (1 : Nat) ≠ 2 by decide)]
                  refine ⟨s1, s2, s3, s4, rfl, rfl, by omega, fun k hk => ?_⟩
                  by_cases ek : k = ld j
                  · subst ek; rw [up1_same, up1_same, up1_same, up1_same]; exact ⟨rfl, rfl, by omega, hc⟩
                  · rw [up1_ne (show 2 * j + k ≠ 2 * j + ld j by omega), up1_ne ek, up1_ne (show 2 * j + k ≠ 2 * j + ld j by omega), up1_ne ek]; exact s8 k (by omega)
                · simp only [if_neg ej]
                  have hj4 := b4 j hj
                  have hl2 := hj4.2.2.2.2.2.2.1
                  unfold SpanOk at *
                  rw [f20, f21, n5, up1_ne ej, v23, v24, fx (X + 54 + 3 * j) (by omega) (by omega) (by omega) (by omega), fx (X + 54 + 3 * j + 1) (by omega) (by omega) (by omega) (by omega), fx (X + 54 + 3 * j + 2) (by omega) (by omega) (by omega) (by omega), c1 (X + 54 + 3 * j) (by omega) (by omega) (by omega) (by omega), c1 (X + 54 + 3 * j + 1) (by omega) (by omega) (by omega) (by omega), c1 (X + 54 + 3 * j + 2) (by omega) (by omega) (by omega) (by omega)]
                  obtain ⟨y1, y2, y3, y4, y5, y6, y7, y8⟩ := hj4
                  exact ⟨y1, y2, y3, y4, y5, y6, y7, fun k hk => by rw [up1_ne (by omega), up1_ne (by omega)]; exact y8 k hk⟩
              · rw [fx (M + 25) (by omega) (by omega) (by omega) (by omega), cm (M + 25) (by omega), fx (X + 23) (by omega) (by omega) (by omega) (by omega), c1 (X + 23) (by omega) (by omega) (by omega) (by omega)]
                exact b5
            · rw [m5, up1_same, fx X (by omega) (by omega) (by omega) (by omega), cX, up1_same]
        · have c1 : ∀ x, M ≤ x → H1 x = H x := fun x hx => by rw [e1, upA_ne (by omega)]
          exact rfo H1 c1 ⟨fun g => absurd (by omega) g, fun _ => rej 3 H1 e1⟩
      · rw [decide_eq_false hc]
        exact ⟨fun g => absurd rfl g, fun _ => rf2 (fun z => hc z.2)⟩
    · rw [decide_eq_false hb]
      exact ⟨fun _ => rf2 (fun z => hb ⟨z.1.1, by omega⟩), fun g => absurd rfl g⟩
  · rw [decide_eq_false ha]
    refine ⟨fun g => absurd rfl g, fun _ => sp_X11_refuse hS.1 (fun H1 e1 => ?_)⟩
    have rr := rej 1 H1 e1
    refine eX12_load fun _ _ _ _ => bX12_load_0 ?_
    simp only [Int.toNat_natCast, Option.some.injEq, Prod.mk.injEq, true_and, and_true, exists_eq_left', hR.k0]
    refine ⟨by omega, sp_X12_isSpan hR.k0 (n := nsp) (by rw [e1, upA_ne (by omega)]; exact b3) ?_⟩
    rw [decide_eq_false ha]
    exact ⟨fun g => absurd rfl g, fun _ => rr⟩
end S7
