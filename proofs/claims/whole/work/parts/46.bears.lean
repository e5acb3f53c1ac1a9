/-! BORNE and SAFE on both sides; asking calls -/
section Cg
variable {f z : Int} {bw bf bt rh us us' : Nat → Int} {nb nr : Nat} {hi n m : Int}
theorem walkR_congr (h : ∀ r, r < nr → us r = us' r) {needs : Int} : walkR f z bw bf bt nb rh us nr hi needs = walkR f z bw bf bt nb rh us' nr hi needs := by
  have e1 : rhoF rh us nr hi = rhoF rh us' nr hi := by
    funext k
    unfold rhoF rAt
    congr 1
    exact sumN_congr (fun r hr => by rw [h r hr])
  have e2 : bnd0 z rh us nr = bnd0 z rh us' nr := sumN_congr (fun r hr => by rw [h r hr])
  unfold walkR
  rw [e1, e2]
theorem bearS_congr (h : ∀ r, r < nr → us r = us' r) : bearS f z bw bf bt nb rh us nr hi n m = bearS f z bw bf bt nb rh us' nr hi n m := by
  unfold bearS
  rw [sumN_congr h, walkR_congr h]
theorem bearB_congr (h : ∀ r, r < nr → us r = us' r) : bearB f z bw bf bt nb rh us nr n m = bearB f z bw bf bt nb rh us' nr n m := by
  unfold bearB
  rw [bearS_congr h, bearS_congr h]
end Cg
theorem use_ok {U R S : Nat → Int} {i nr : Nat} (h6 : nr ≤ 6) (hU : ∀ k, k < 6 → U k = if k < nr then R (6 * i + k) else 0) (hR : ∀ r, r < nr → R (6 * i + r) = S r) (hS : StrB S nr) : StrB U 6 ∧ UseZ U nr ∧ ∀ r, r < nr → U r = S r := by
  have h1 : ∀ r, r < nr → U r = S r := fun r hr => by rw [hU r (by omega), if_pos hr, hR r hr]
  have h2 : UseZ U nr := fun k a b => by rw [hU k b, if_neg (by omega)]
  refine ⟨fun r hr => ?_, h2, h1⟩
  by_cases c : r < nr
  · rw [h1 r c]; exact hS r c
  · rw [h2 r (by omega) hr]; omega
theorem sp_X12_isPush {d : Nat} {K : Shp} {H : Mem} {M i nb nr : Nat} {f z n : Int} {bw bf bt rh : Nat → Int} {q : Int → Mem → Prop} (hk : RefS K M) (hp : RefP (H M) M) (hi : i < 4) (hR : RSec H M i f z bw bf bt nb rh nr) (hf : 1 ≤ f ∧ f ≤ 50) (hB : BandB bw bf bt nb) (h6 : nr ≤ 6) (hS : StrB (H (M + 14)) 6) (hU : UseZ (H (M + 14)) nr)
    (hq : q (bI (decide (-sumN (H (M + 14)) nr ≤ n ∧ n ≤ f * areaF bw bf bt nb + sumN (H (M + 14)) nr))) H) : Ci mX12_isPush (d + 2) [(2, (M : Int)), (0, (i : Int)), (0, n)] K H q := by
  have hs := sum_use6 hU h6
  have hpb := pull_bd hS 6 (by omega)
  refine eX12_isPush fun _ _ _ => bX12_isPush_0 ?_
  simp only [Int.toNat_natCast, Option.some.injEq, Prod.mk.injEq, true_and, and_true, exists_eq_left', hk.k0]
  refine ⟨by omega, sp_X12_greatest hk hp hi hR hf hB hS ?_⟩
  rw [hs]
  refine ⟨fun g => ?_, fun g => sp_X12_pulls hk hp hS ⟨⟨by omega, by omega⟩, ?_⟩⟩
  · rw [decide_eq_false (by omega)] at hq; exact hq
  · rw [hs]
    refine ⟨fun g2 => ?_, fun g2 => ?_⟩
    · rw [decide_eq_false (by omega)] at hq; exact hq
    · rw [decide_eq_true (by omega)] at hq; exact hq
theorem sp_X12_bears {d : Nat} {K : Shp} {H : Mem} {M i nb nr : Nat} {f z n m : Int} {bw bf bt rh : Nat → Int} {q : Int → Mem → Prop} (hk : RefS K M) (hp : RefP (H M) M) (hi : i < 4) (hR : RSec H M i f z bw bf bt nb rh nr) (hf : 1 ≤ f ∧ f ≤ 50) (hz : 0 ≤ z ∧ z ≤ 100) (hB : BandB bw bf bt nb) (hRB : RodB rh nr) (hS : StrB (H (M + 14)) 6) (hU : UseZ (H (M + 14)) nr) (hm : -1000000 ≤ m ∧ m ≤ 1000000)
    (hq : ∀ H', FC M [0] H H' → FO [19, 20, 21, 22] (H M) (H' M) → q (bI (bearB f z bw bf bt nb rh (H (M + 14)) nr n m)) H') : Ci mX12_bears (d + 3) [(2, (M : Int)), (0, (i : Int)), (0, n), (0, m)] K H q := by
  have h6 := hRB.1
  have hSn : StrB (H (M + 14)) nr := fun r hr => hS r (by omega)
  have hpb := pull_bd hSn nr (Nat.le_refl _)
  have hfa := fareab hf hB
  refine eX12_bears fun _ _ _ _ => bX12_bears_0 ?_
  simp only [Int.toNat_natCast, Option.some.injEq, Prod.mk.injEq, true_and, and_true, exists_eq_left', hk.k0]
  refine ⟨by omega, sp_X12_isPush hk hp hi hR hf hB h6 hS hU ?_⟩
  unfold bearB bearS at hq
  by_cases hc : -sumN (H (M + 14)) nr ≤ n ∧ n ≤ f * areaF bw bf bt nb + sumN (H (M + 14)) nr
  · rw [decide_eq_true hc] at hq ⊢
    obtain ⟨N, D, P, Z, hW⟩ := walk_some (us := H (M + 14)) (z := z) (hi := 1) (needs := n + sumN (H (M + 14)) nr) hf.1 hB hRB (by omega)
    obtain ⟨N2, D2, P2, Z2, hW2⟩ := walk_some (us := H (M + 14)) (z := z) (hi := 0) (needs := n + sumN (H (M + 14)) nr) hf.1 hB hRB (by omega)
    have hbd := walkR_bd hf hz hB hRB hSn (by omega) hW
    have hbd2 := walkR_bd hf hz hB hRB hSn (by omega) hW2
    rw [hW, hW2] at hq
    simp only [Bool.true_and, onSide] at hq
    rw [if_neg (by decide), if_pos trivial] at hq
    refine ⟨fun _ => sp_X12_go hk hp hi hR hf hz hB hRB hS hU (by omega) (by omega) hW ?_, fun g => absurd g (by decide)⟩
    intro H1 c0 c1 c2 c3 c4 c5
    have mb := mabs hm.1 hm.2 (show -80000 ≤ D by omega) (show D ≤ 80000 by omega)
    have mb2 := mabs hm.1 hm.2 (show -80000 ≤ D2 by omega) (show D2 ≤ 80000 by omega)
    rw [c2, c3]
    refine ⟨⟨by omega, by omega⟩, fun g => ?_, fun g => ?_⟩
    · have h14 := c0.at 14 rfl
      have hR1 : RSec H1 M i f z bw bf bt nb rh nr := hR.keep c0 rfl rfl rfl rfl rfl rfl rfl
      refine sp_X12_go hk (hp.cong _ rfl c1) hi hR1 hf hz hB hRB (by rw [h14]; exact hS) (by rw [h14]; exact hU) (by rw [h14]; omega) (by rw [h14]; omega) (by rw [h14]; exact hW2) ?_
      intro H2 e0 e1 e2 e3 e4 e5
      rw [e2, e3]
      have hqq := hq H2 (c0.same e0) (c1.same e1)
      rw [decide_eq_true g, Bool.true_and] at hqq
      refine ⟨⟨by omega, by omega⟩, fun g2 => ?_, fun g2 => ?_⟩
      · rw [decide_eq_false (by omega)] at hqq; exact hqq
      · rw [decide_eq_true (by omega)] at hqq; exact hqq
    · have hqq := hq H1 c0 c1
      rw [decide_eq_false g, Bool.false_and] at hqq
      exact hqq
  · rw [decide_eq_false hc] at hq ⊢
    refine ⟨fun g => absurd rfl g, fun _ => ?_⟩
    simp only [Bool.false_and] at hq
    exact hq H FC.rf FO.rf
/-- the first of n from i on of which p does not hold -/
def failF (p : Nat → Bool) : Nat → Nat → Int
  | _, 0 => -2
  | i, n + 1 => if p i = true then failF p (i + 1) n else (i : Int)
theorem sp_X12_fails {d : Nat} {K : Shp} {H : Mem} {M i nb nr np : Nat} {f z : Int} {bw bf bt rh : Nat → Int} {q : Int → Mem → Prop} (hk : RefS K M) (hp : RefP (H M) M) (hi : i < 4) (hR : RSec H M i f z bw bf bt nb rh nr) (hf : 1 ≤ f ∧ f ≤ 50) (hz : 0 ≤ z ∧ z ≤ 100) (hB : BandB bw bf bt nb) (hRB : RodB rh nr) (hS : StrB (H (M + 14)) 6) (hU : UseZ (H (M + 14)) nr) (hnp : H M 27 = (np : Int)) (h8 : np ≤ 8) (hm : ∀ p, p < np → -1000000 ≤ H (M + 16) p ∧ H (M + 16) p ≤ 1000000)
    (hq : ∀ H', FC M [0] H H' → FO [19, 20, 21, 22] (H M) (H' M) → q (failF (fun k => bearB f z bw bf bt nb rh (H (M + 14)) nr (H (M + 15) k) (H (M + 16) k)) 0 np) H') : Ci mX12_fails (d + 4) [(2, (M : Int)), (0, (i : Int))] K H q := by
  refine eX12_fails fun _ _ => bX12_fails_0 ?_
  have loop : ∀ (n k : Nat), k + n = np → ∀ G : Mem, FC M [0] H G → FO [19, 20, 21, 22] (H M) (G M) → (∀ H', FC M [0] H H' → FO [19, 20, 21, 22] (H M) (H' M) → q (failF (fun k => bearB f z bw bf bt nb rh (H (M + 14)) nr (H (M + 15) k) (H (M + 16) k)) k n) H') → FX12_fails_2 (d + 3) K G q (M : Int) (i : Int) (k : Int) := by
    intro n
    induction n with
    | zero =>
      intro k hkn G g0 g1 hq'
      refine bX12_fails_2 ?_
      simp only [Int.toNat_natCast, Option.some.injEq, Prod.mk.injEq, true_and, and_true, exists_eq_left', hk.k0, g1 27 rfl, hnp]
      exact ⟨by omega, fun _ => hq' G g0 g1, fun g => absurd g (by omega)⟩
    | succ n ih =>
      intro k hkn G g0 g1 hq'
      have h14 := g0.at 14 rfl
      refine bX12_fails_2 ?_
      simp only [Int.toNat_natCast, Option.some.injEq, Prod.mk.injEq, true_and, and_true, exists_eq_left', hk.k0, g1 27 rfl, hnp, g1 23 rfl, g1 24 rfl, hp.p23, hp.p24, hk.k15, hk.k16, g0.at 15 rfl, g0.at 16 rfl]
      refine ⟨by omega, fun g => absurd (by omega) g, fun _ => ⟨by omega, by omega, by omega, by omega, by omega, ?_⟩⟩
      refine sp_X12_bears hk (hp.cong _ rfl g1) hi (hR.keep g0 rfl rfl rfl rfl rfl rfl rfl) hf hz hB hRB (by rw [h14]; exact hS) (by rw [h14]; exact hU) (hm k (by omega)) ?_
      intro H1 e0 e1
      rw [h14]
      simp only [failF] at hq'
      cases hb : bearB f z bw bf bt nb rh (H (M + 14)) nr (H (M + 15) k) (H (M + 16) k) with
      | true =>
        refine ⟨fun _ => ⟨⟨by omega, by omega⟩, ih (k + 1) (by omega) H1 (g0.same e0) (g1.same e1) (fun H' a b => ?_)⟩, fun g => absurd g (by decide)⟩
        have := hq' H' a b
        rwa [if_pos hb] at this
      | false =>
        refine ⟨fun g => absurd rfl g, fun _ => ?_⟩
        have := hq' H1 (g0.same e0) (g1.same e1)
        rw [if_neg (by rw [hb]; decide)] at this
        exact this
  exact loop np 0 (by omega) H FC.rf FO.rf hq
theorem Armed.keep {H H' : Mem} {w s nb nr : Nat} {us : Nat → Int} (h : Armed H w s us nb nr) (hws : w + 3 < s) (e : ∀ x, x ≠ w + 1 → x ≠ w + 2 → H' x = H x) : Armed H' w s us nb nr := by
  unfold Armed at *
  rw [e w (by omega) (by omega), e s (by omega) (by omega), e (s + 4) (by omega) (by omega), e (s + 2) (by omega) (by omega), e (s + 3) (by omega) (by omega), e (w + 3) (by omega) (by omega)]
  exact h
theorem sp_X11_bears {d : Nat} {K : Shp} {H : Mem} {X s nb nr : Nat} {n m : Int} {q : Int → Mem → Prop} (hX : K[X]? = some (11, 8)) (hp6 : H X 6 = ((X + 69 : Nat) : Int)) (hI : SecI K H s nb nr) (hw : WkS K (X + 69)) (hwp : WkP (H (X + 69)) (X + 69)) (hs : X + 72 < s) (hm : -1000000 ≤ m ∧ m ≤ 1000000)
    (hq : ∀ H', (∀ x, x < X + 69 ∨ X + 72 < x → H' x = H x) → WkP (H' (X + 69)) (X + 69) → q (bI (bearOf H s nb nr (H (s + 5)) n m)) H') : Ci mX11_bears (d + 3) [(2, (X : Int)), (2, (s : Int)), (0, n), (0, m)] K H q := by
  refine eX11_bears fun _ _ _ => bX11_bears_0 ?_
  simp only [Int.toNat_natCast, Option.some.injEq, Prod.mk.injEq, true_and, and_true, exists_eq_left', hX, hI.1.1, hp6, hw.1, hI.2.1.2.2.2.2.1]
  refine ⟨by omega, by omega, by omega, sp_X9_arm hI hw hwp (by omega) hI.1.2.2.2.2.2.1 (by omega) hI.2.2.2.2.2.2.2.2.1 ?_⟩
  intro H1 a0 a1 a2
  have hI1 : SecI K H1 s nb nr := hI.keepc (fun j hj => a0 _ (by omega) (by omega))
  simp only [Int.toNat_natCast, Option.some.injEq, Prod.mk.injEq, true_and, and_true, exists_eq_left', a0 X (by omega) (by omega), hp6, hw.1]
  have bS := hI.2.2.2.2.2.2.2.2.1
  unfold bearOf bearB at hq
  refine ⟨by omega, sp_X9_bearsOn hI1 hw a1 (by omega) a2 bS hm ?_⟩
  intro H2 b0
  have es : ∀ j, j < 10 → H1 (s + j) = H (s + j) := fun j hj => a0 _ (by omega) (by omega)
  have e0 : H1 s = H s := es 0 (by omega)
  rw [e0, es 1 (by omega), es 2 (by omega), es 3 (by omega), es 4 (by omega)]
  have k2 : ∀ x, x < X + 69 ∨ X + 72 < x → H2 x = H x := fun x hx => by rw [b0 x (by omega) (by omega), a0 x (by omega) (by omega)]
  have w2 : WkP (H2 (X + 69)) (X + 69) := by rw [b0 _ (by omega) (by omega)]; exact a1
  cases hb : bearS (H s 0) (H s 1) (H (s + 1)) (H (s + 2)) (H (s + 3)) nb (H (s + 4)) (H (s + 5)) nr 1 n m with
  | false =>
    rw [hb] at hq
    exact ⟨fun _ => hq H2 k2 w2, fun g => absurd rfl g⟩
  | true =>
    rw [hb] at hq
    refine ⟨fun g => absurd g (by decide), fun _ => ?_⟩
    simp only [Int.toNat_natCast, Option.some.injEq, Prod.mk.injEq, true_and, and_true, exists_eq_left', k2 X (by omega), hp6, hw.1]
    have hI2 : SecI K H2 s nb nr := hI.keepc (fun j hj => k2 _ (by omega))
    refine ⟨by omega, sp_X9_bearsOn hI2 hw w2 (by omega) (a2.keep (by omega) b0) bS hm ?_⟩
    intro H3 c0
    have k3 : ∀ x, x < X + 69 ∨ X + 72 < x → H3 x = H x := fun x hx => by rw [c0 x (by omega) (by omega), k2 x hx]
    have w3 : WkP (H3 (X + 69)) (X + 69) := by rw [c0 _ (by omega) (by omega)]; exact w2
    have hqq := hq H3 k3 w3
    rw [Bool.true_and] at hqq
    rw [show H2 s = H s from k2 s (by omega), k2 (s + 1) (by omega), k2 (s + 2) (by omega), k2 (s + 3) (by omega), k2 (s + 4) (by omega)]
    cases hb2 : bearS (H s 0) (H s 1) (H (s + 1)) (H (s + 2)) (H (s + 3)) nb (H (s + 4)) (H (s + 5)) nr 0 n m with
    | false => rw [hb2] at hqq; exact ⟨fun _ => hqq, fun g => absurd rfl g⟩
    | true => rw [hb2] at hqq; exact ⟨fun g => absurd g (by decide), fun _ => hqq⟩
/-- an asking call: both have written helpers and the same status -/
theorem Inv.ask2 {K : Shp} {H H1 H2 : Mem} {X M : Nat} {v : Int} (h : Inv K H X M) (c : ∀ x, x ≠ X → ¬ (X + 24 ≤ x ∧ x ≤ X + 53) → ¬ (X + 69 ≤ x ∧ x ≤ X + 82) → H1 x = H x) (cX : H1 X = up1 (H X) 0 v) (hs : ScrP K H1 X) (f1 : FC M [0, 1, 2, 3, 4, 14, 19, 26] H1 H2) (f2 : FO [0, 2, 6, 7, 19, 20, 21, 22, 30, 38, 39, 40, 41, 42, 43, 44, 45, 46, 47, 48, 50] (H1 M) (H2 M)) (f3 : H2 M 0 = v) : Inv K H2 X M := by
  have hM := h.1
  have lo : ∀ x, x < M → H2 x = H1 x := fun x hx => f1.lt hx
  have cM : H1 M = H M := c M (by omega) (by omega) (by omega)
  refine h.ask (fun x k hk => ?_) (hs.cells (fun x hx => lo x (by omega))) (h.2.2.2.2.2.2.2.1.keep ?_ ?_ ?_ ?_) ?_
  · by_cases xM : x = M
    · subst xM
      rw [f2 k (by unfold keepP at hk; simp; omega), cM]
    · by_cases xX : x = X
      · subst xX
        rw [lo _ (by omega), cX, up1_ne (by unfold keepP at hk; omega)]
      · rw [f1.ne (x := x) (fun j hj => by simp at hj; unfold keepP at hk; omega), c x xX (by unfold keepP at hk; omega) (by unfold keepP at hk; omega)]
  · rw [lo _ (by omega), c _ (by omega) (by omega) (by omega)]
  · rw [lo _ (by omega), c _ (by omega) (by omega) (by omega)]
  · rw [f1.at 5 rfl, c _ (by omega) (by omega) (by omega)]
  · rw [f2 9 rfl, cM]
  · rw [f3, lo X (by omega), cX, up1_same]
