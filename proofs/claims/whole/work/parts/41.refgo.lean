/-! the reference: go, bears, fails -/
def RSec (H : Mem) (M i : Nat) (f z : Int) (bw bf bt : Nat → Int) (nb : Nat) (rh : Nat → Int) (nr : Nat) : Prop := H (M + 6) i = f ∧ H (M + 7) i = z ∧ H (M + 8) i = (nb : Int) ∧ H (M + 9) i = (nr : Int) ∧ H (M + 10) i = areaF bw bf bt nb ∧ (∀ y : Nat, y < 100 → H (M + 11) (100 * i + y) = wAt bw bf bt nb (y : Int)) ∧ ∀ r, r < nr → H (M + 12) (6 * i + r) = rh r
theorem RSec.keep {H H' : Mem} {M i : Nat} {f z : Int} {bw bf bt rh : Nat → Int} {nb nr : Nat} {l : List Nat} (h : RSec H M i f z bw bf bt nb rh nr) (e : FC M l H H') (h6 : l.contains 6 = false) (h7 : l.contains 7 = false) (h8 : l.contains 8 = false) (h9 : l.contains 9 = false) (h10 : l.contains 10 = false) (h11 : l.contains 11 = false) (h12 : l.contains 12 = false) : RSec H' M i f z bw bf bt nb rh nr := by
  unfold RSec
  rw [e.at 6 h6, e.at 7 h7, e.at 8 h8, e.at 9 h9, e.at 10 h10, e.at 11 h11, e.at 12 h12]
  exact h
def UseZ (us : Nat → Int) (nr : Nat) : Prop := ∀ k, nr ≤ k → k < 6 → us k = 0
theorem sum_use {us : Nat → Int} {nr : Nat} (h : UseZ us nr) : ∀ n, nr + n ≤ 6 → sumN us (nr + n) = sumN us nr
  | 0, _ => rfl
  | n + 1, hn => by
    rw [← Nat.add_assoc]
    simp only [sumN]
    rw [sum_use h n (by omega), h (nr + n) (by omega) (by omega)]
    omega
theorem sum_use6 {us : Nat → Int} {nr : Nat} (h : UseZ us nr) (h6 : nr ≤ 6) : sumN us 6 = sumN us nr := by
  have := sum_use h (6 - nr) (by omega)
  rwa [show nr + (6 - nr) = 6 by omega] at this
theorem FO.same {l : List Nat} {g g' g2 : Nat → Int} (h1 : FO l g g') (h2 : FO l g' g2) : FO l g g2 := fun k hk => (h2 k hk).trans (h1 k hk)
theorem FC.same {M : Nat} {l : List Nat} {H H' H2 : Mem} (h1 : FC M l H H') (h2 : FC M l H' H2) : FC M l H H2 := fun x hx => (h2 x hx).trans (h1 x hx)
section RefA
variable {d : Nat} {K : Shp} {H : Mem} {M i nb nr : Nat} {f z : Int} {bw bf bt rh : Nat → Int}
theorem sp_X12_asTold {q : Mem → Prop} (hk : RefS K M) (hp : RefP (H M) M) (hi : i < 4) (hr : H (M + 9) i = (nr : Int)) (h6 : nr ≤ 6)
    (hq : ∀ H', FC M [14] H H' → (∀ k, k < 6 → H' (M + 14) k = if k < nr then H (M + 13) (6 * i + k) else 0) → q H') : Cv mX12_asTold d [(2, (M : Int)), (0, (i : Int))] K H q := by
  refine eX12_asTold fun _ _ => bX12_asTold_0 ?_
  have loop : ∀ (n k : Nat), k + n = 6 → ∀ G : Mem, FC M [14] H G → (∀ j, j < k → G (M + 14) j = if j < nr then H (M + 13) (6 * i + j) else 0) → FX12_asTold_2 d K G q (M : Int) (i : Int) (k : Int) := by
    intro n
    induction n with
    | zero =>
      intro k hkk G h1 h2
      have e : k = 6 := by omega
      subst e
      exact bX12_asTold_2 ⟨fun _ => hq G h1 h2, fun h => absurd h (by omega)⟩
    | succ n ih =>
      intro k hkk G h1 h2
      have gs := h1.self rfl
      have g9 := h1.at 9 rfl
      have g13 := h1.at 13 rfl
      have e6 : (6 * (i : Int) + (k : Int)).toNat = 6 * i + k := by omega
      refine bX12_asTold_2 ⟨fun h => absurd (by omega) h, fun _ => ?_⟩
      simp only [Int.toNat_natCast, Option.some.injEq, Prod.mk.injEq, true_and, and_true, exists_eq_left', gs, g9, g13, hp.p13, hp.p17, hp.p18, hk.k0, hk.k9, hk.k13, hk.k14, hr, e6]
      have nxt : ∀ v : Int, (v = if k < nr then H (M + 13) (6 * i + k) else 0) → FX12_asTold_2 d K (upA G (M + 14) (up1 (G (M + 14)) k v)) q (M : Int) (i : Int) ((k : Int) + 1) := by
        intro v hv
        refine ih (k + 1) (by omega) _ (h1.tr (FC.up (l := [14]) rfl) rfl rfl) (fun j hj => ?_)
        rw [upA_same]
        by_cases e : j = k
        · subst e; rw [up1_same]; exact hv
        · rw [up1_ne e]; exact h2 j (by omega)
      refine ⟨by omega, by omega, by omega, by omega, fun h => ⟨by omega, by omega, by omega, fun H1 e1 => ⟨⟨by omega, by omega⟩, ?_⟩⟩, fun h => ⟨⟨by omega, by omega⟩, ⟨by omega, by omega⟩, by omega, by omega, by omega, by omega, by omega, by omega, fun H1 e1 => ⟨⟨by omega, by omega⟩, ?_⟩⟩⟩
      · rw [e1]; exact nxt 0 (by rw [if_neg (by omega)])
      · rw [e1]; exact nxt _ (by rw [if_pos (by omega)])
  exact loop 6 0 (by omega) H FC.rf (fun j hj => absurd hj (by omega))
theorem sp_X12_pulls {q : Int → Mem → Prop} (hk : RefS K M) (hp : RefP (H M) M) (hS : StrB (H (M + 14)) 6) (hq : q (sumN (H (M + 14)) 6) H) : Ci mX12_pulls d [(2, (M : Int))] K H q := by
  refine eX12_pulls fun _ => bX12_pulls_0 ?_
  have loop : ∀ (n k : Nat), k + n = 6 → FX12_pulls_4 d K H q (M : Int) (sumN (H (M + 14)) k) (k : Int) := by
    intro n
    induction n with
    | zero =>
      intro k hkk
      have e : k = 6 := by omega
      subst e
      exact bX12_pulls_4 ⟨fun _ => hq, fun h => absurd h (by omega)⟩
    | succ n ih =>
      intro k hkk
      have h1 := pull_bd hS k (by omega)
      have h2 := hS k (by omega)
      refine bX12_pulls_4 ⟨fun h => absurd (by omega) h, fun _ => ?_⟩
      simp only [Int.toNat_natCast, Option.some.injEq, Prod.mk.injEq, true_and, and_true, exists_eq_left', hp.p18, hk.k0, hk.k14]
      exact ⟨by omega, by omega, by omega, by omega, ⟨by omega, by omega⟩, ⟨by omega, by omega⟩, ih (k + 1) (by omega)⟩
  exact loop 6 0 (by omega)
theorem sp_X12_greatest {q : Int → Mem → Prop} (hk : RefS K M) (hp : RefP (H M) M) (hi : i < 4) (hR : RSec H M i f z bw bf bt nb rh nr) (hf : 1 ≤ f ∧ f ≤ 50) (hB : BandB bw bf bt nb) (hS : StrB (H (M + 14)) 6) (hq : q (f * areaF bw bf bt nb + sumN (H (M + 14)) 6) H) : Ci mX12_greatest (d + 1) [(2, (M : Int)), (0, (i : Int))] K H q := by
  have hfa := fareab hf hB
  have hpb := pull_bd hS 6 (by omega)
  refine eX12_greatest fun _ _ => bX12_greatest_0 ?_
  simp only [Int.toNat_natCast, Option.some.injEq, Prod.mk.injEq, true_and, and_true, exists_eq_left', hp.p10, hp.p14, hk.k0, hk.k6, hk.k10, hR.1, hR.2.2.2.2.1]
  exact ⟨by omega, by omega, by omega, by omega, by omega, by omega, ⟨by omega, by omega⟩, sp_X12_pulls hk hp hS ⟨⟨by omega, by omega⟩, hq⟩⟩
theorem sp_X12_at {q : Int → Mem → Prop} {y : Int} (hk : RefS K M) (hp : RefP (H M) M) (hi : i < 4) (hR : RSec H M i f z bw bf bt nb rh nr) (h6 : nr ≤ 6) (hS : StrB (H (M + 14)) 6) (hq : q (rAt rh (H (M + 14)) nr y) H) : Cl mX12_at d [(2, (M : Int)), (0, (i : Int)), (0, y)] K H q := by
  refine eX12_at fun _ _ _ => bX12_at_0 ?_
  have loop : ∀ (n k : Nat), k + n = nr → FX12_at_5 d K H q (M : Int) (i : Int) y (rAt rh (H (M + 14)) k y) (k : Int) := by
    intro n
    induction n with
    | zero =>
      intro k hkk
      have e : k = nr := by omega
      subst e
      refine bX12_at_5 ?_
      simp only [Int.toNat_natCast, Option.some.injEq, Prod.mk.injEq, true_and, and_true, exists_eq_left', hp.p13, hk.k0, hk.k9, hR.2.2.2.1]
      exact ⟨by omega, by omega, by omega, by omega, fun _ => hq, fun h => absurd h (by omega)⟩
    | succ n ih =>
      intro k hkk
      have h1 := rAt_bd (rh := rh) hS y k (by omega)
      have h2 := hS k (by omega)
      have e6 : (6 * (i : Int) + (k : Int)).toNat = 6 * i + k := by omega
      have e1 : rAt rh (H (M + 14)) (k + 1) y = rAt rh (H (M + 14)) k y + (if rh k = y then H (M + 14) k else 0) := rfl
      have this := ih (k + 1) (by omega)
      rw [e1] at this
      refine bX12_at_5 ?_
      simp only [Int.toNat_natCast, Option.some.injEq, Prod.mk.injEq, true_and, and_true, exists_eq_left', hp.p13, hp.p16, hp.p18, hk.k0, hk.k9, hk.k12, hk.k14, hR.2.2.2.1, e6, hR.2.2.2.2.2.2 k (by omega)]
      refine ⟨by omega, by omega, by omega, by omega, fun h => absurd (by omega) h, fun _ => ⟨⟨by omega, by omega⟩, ⟨by omega, by omega⟩, by omega, by omega, by omega, fun h => ⟨⟨by omega, by omega⟩, ⟨by omega, by omega⟩, ?_⟩, fun h => ⟨by omega, by omega, by omega, ⟨by omega, by omega⟩, ⟨by omega, by omega⟩, ?_⟩⟩⟩
      · rw [if_neg h] at this; exact this
      · rw [if_pos h] at this; exact this
  exact loop nr 0 (by omega)
theorem sp_X12_found {q : Mem → Prop} {a b c e : Int} (hk : RefS K M) (hq : ∀ H', FC M [0] H H' → FO [19, 20, 21, 22] (H M) (H' M) → H' M 19 = a → H' M 20 = b → H' M 21 = c → H' M 22 = e → q H') : Cv mX12_found d [(2, (M : Int)), (1, a), (1, b), (1, c), (1, e)] K H q := by
  refine eX12_found fun _ _ _ _ _ => bX12_found_0 ?_
  simp only [Int.toNat_natCast, Option.some.injEq, Prod.mk.injEq, true_and, and_true, exists_eq_left', hk.k0]
  refine ⟨by omega, fun H3 e3 H4 e4 H5 e5 H6 e6 => ?_⟩
  have hM : H6 M = up1 (up1 (up1 (up1 (H M) 19 a) 20 b) 21 c) 22 e := by rw [e6, upA_same, e5, upA_same, e4, upA_same, e3, upA_same]
  have hF : FC M [0] H H6 := by
    intro x hx
    have hx0 : x ≠ M := hx 0 rfl
    rw [e6, upA_ne hx0, e5, upA_ne hx0, e4, upA_ne hx0, e3, upA_ne hx0]
  refine hq H6 hF ?_ ?_ ?_ ?_ ?_
  · rw [hM]
    exact (((FO.up (l := [19, 20, 21, 22]) rfl).same (FO.up (l := [19, 20, 21, 22]) rfl)).same (FO.up (l := [19, 20, 21, 22]) rfl)).same (FO.up (l := [19, 20, 21, 22]) rfl)
  · rw [hM]; simp [up1]
  · rw [hM]; simp [up1]
  · rw [hM]; simp [up1]
  · rw [hM]; simp [up1]
end RefA
theorem tw_unit {g B x m : Int} : g * B + x * (2 * (g * m) + -g) = g * (B + x * (2 * m - 1)) := by grind
theorem fin_N2 {g X p r : Int} : g * X * p + -g * r * r = g * (X * p - r * r) := by grind
set_option maxHeartbeats 2000000 in
theorem sp_X12_go {d : Nat} {K : Shp} {H : Mem} {M i nb nr : Nat} {f z n hi N D P Z : Int} {bw bf bt rh : Nat → Int} {q : Mem → Prop} (hk : RefS K M) (hp : RefP (H M) M) (hi4 : i < 4) (hR : RSec H M i f z bw bf bt nb rh nr) (hf : 1 ≤ f ∧ f ≤ 50) (hz : 0 ≤ z ∧ z ≤ 100) (hB : BandB bw bf bt nb) (hRB : RodB rh nr) (hS : StrB (H (M + 14)) 6) (hU : UseZ (H (M + 14)) nr)
    (hn0 : 0 ≤ n + sumN (H (M + 14)) nr) (hn1 : n + sumN (H (M + 14)) nr ≤ 4002400) (hW : walkR f z bw bf bt nb rh (H (M + 14)) nr hi (n + sumN (H (M + 14)) nr) = some (N, D, P, Z))
    (hq : ∀ H', FC M [0] H H' → FO [19, 20, 21, 22] (H M) (H' M) → H' M 19 = sgF hi * N → H' M 20 = D → H' M 21 = cutT hi P Z → H' M 22 = Z → q H') : Cv mX12_go (d + 1) [(2, (M : Int)), (0, (i : Int)), (1, n), (0, hi)] K H q := by
  have h6 := hRB.1
  have hSn : StrB (H (M + 14)) nr := fun r hr => hS r (by omega)
  have hpb := pull_bd hSn nr (Nat.le_refl _)
  have hsg : sgF hi = 1 ∨ sgF hi = -1 := by unfold sgF; split <;> omega
  have hsum := sum_use6 hU h6
  have hbb := bnd0_bd hz hRB hSn nr (Nat.le_refl _)
  refine eX12_go fun _ _ _ _ => bX12_go_0 ?_
  simp only [Int.toNat_natCast, Option.some.injEq, Prod.mk.injEq, true_and, and_true, exists_eq_left', hk.k0]
  refine ⟨by omega, sp_X12_pulls hk hp hS ?_⟩
  rw [hsum]
  refine ⟨⟨by omega, by omega⟩, ?_⟩
  have lp : ∀ (m l : Nat), l + m = 100 → ∀ (push B : Int), rw_ (rhoF rh (H (M + 14)) nr hi) (stF f bw bf bt nb hi) (armF z hi) m l (n - push) B = some (N, D, P, Z) → 0 ≤ n - push → n - push ≤ 4002400 → -(240000 + 200 * (4002400 - (n - push))) ≤ B → B ≤ 240000 + 200 * (4002400 - (n - push)) → -10000000 ≤ push → push ≤ 10000000 → FX12_go_94 d K H q (M : Int) (i : Int) n hi push (sgF hi * B) (-sgF hi) (lvH hi l) := by
    have rodc : ∀ (m l : Nat), l ≤ 100 → ∀ (push B : Int), rw_ (rhoF rh (H (M + 14)) nr hi) (stF f bw bf bt nb hi) (armF z hi) m l (n - push) B = some (N, D, P, Z) → 0 ≤ n - push → n - push ≤ 4002400 → -(240000 + 200 * (4002400 - (n - push))) ≤ B → B ≤ 240000 + 200 * (4002400 - (n - push)) → n - push ≤ rhoF rh (H (M + 14)) nr hi l → FX12_go_94 d K H q (M : Int) (i : Int) n hi push (sgF hi * B) (-sgF hi) (lvH hi l) := by
      intro m l hl push B hrw r0 r1 b0 b1 hc
      have hl0 : 0 ≤ lvH hi l ∧ lvH hi l ≤ 100 := by unfold lvH; split <;> omega
      have hyz : lvH hi l - z = sgF hi * (armF z hi - l) := by unfold lvH sgF armF; split <;> omega
      have hxb := rAt_bd (rh := rh) hSn (lvH hi l) nr (Nat.le_refl _)
      have hsm : -100 ≤ sgF hi * (armF z hi - (l : Int)) ∧ sgF hi * (armF z hi - (l : Int)) ≤ 100 := by rw [← hyz]; omega
      have hsB : -(240000 + 200 * (4002400 - (n - push))) ≤ sgF hi * B ∧ sgF hi * B ≤ 240000 + 200 * (4002400 - (n - push)) := by rcases hsg with e | e <;> rw [e] <;> omega
      have mm := mabs (show -(2 * (n - push)) ≤ 2 * (n - push) by omega) (Int.le_refl _) hsm.1 hsm.2
      rw [rw_rod hc] at hrw
      have hinj := Option.some.inj hrw
      simp only [Prod.mk.injEq] at hinj
      obtain ⟨i1, i2, i3, i4⟩ := hinj
      refine bX12_go_94 ⟨fun h => absurd h (by omega), fun _ => ⟨fun h => absurd hl0.2 h, fun _ => ?_⟩⟩
      simp only [Int.toNat_natCast, Option.some.injEq, Prod.mk.injEq, true_and, and_true, exists_eq_left', hp.p11, hk.k0, hk.k7, hR.2.1]
      rw [hyz]
      refine ⟨by omega, by omega, by omega, by omega, ⟨by omega, by omega⟩, sp_X12_at hk hp hi4 hR h6 hS ?_⟩
      refine ⟨⟨by omega, by omega⟩, ⟨by omega, by omega⟩, fun h => absurd hc h, fun _ => ⟨⟨by omega, by omega⟩, ⟨by omega, by omega⟩, ⟨by omega, by omega⟩, sp_X12_found hk ?_⟩⟩
      intro H' c0 c1 c2 c3 c4 c5
      refine hq H' c0 c1 ?_ ?_ ?_ ?_
      · rw [c2, tw_step, i1]
      · rw [c3, i2]
      · rw [c4, ← i3, ← i4]; unfold lvH cutT; split <;> omega
      · rw [c5, i4]
    intro m
    induction m with
    | zero =>
      intro l hl push B hrw r0 r1 b0 b1 q0 q1
      by_cases hc : n - push ≤ rhoF rh (H (M + 14)) nr hi l
      · exact rodc 0 l (by omega) push B hrw r0 r1 b0 b1 hc
      · exfalso
        unfold rw_ at hrw
        rw [if_neg hc] at hrw
        cases hrw
    | succ m ih =>
      intro l hl push B hrw r0 r1 b0 b1 q0 q1
      by_cases hc : n - push ≤ rhoF rh (H (M + 14)) nr hi l
      · exact rodc (m + 1) l (by omega) push B hrw r0 r1 b0 b1 hc
      · have hl0 : 0 ≤ lvH hi l ∧ lvH hi l ≤ 100 := by unfold lvH; split <;> omega
        have hyz : lvH hi l - z = sgF hi * (armF z hi - l) := by unfold lvH sgF armF; split <;> omega
        have hnl : lvH hi (l + 1) = lvH hi l + -sgF hi := by unfold lvH sgF; split <;> omega
        have hxb := rAt_bd (rh := rh) hSn (lvH hi l) nr (Nat.le_refl _)
        have hsm : -100 ≤ sgF hi * (armF z hi - (l : Int)) ∧ sgF hi * (armF z hi - (l : Int)) ≤ 100 := by rw [← hyz]; omega
        have hsB : -(240000 + 200 * (4002400 - (n - push))) ≤ sgF hi * B ∧ sgF hi * B ≤ 240000 + 200 * (4002400 - (n - push)) := by rcases hsg with e | e <;> rw [e] <;> omega
        rw [rw_pass hc] at hrw
        have hrd : rhoF rh (H (M + 14)) nr hi l = 2 * rAt rh (H (M + 14)) nr (lvH hi l) := rfl
        rw [hrd] at hrw hc
        refine bX12_go_94 ⟨fun h => absurd h (by omega), fun _ => ⟨fun h => absurd hl0.2 h, fun _ => ?_⟩⟩
        simp only [Int.toNat_natCast, Option.some.injEq, Prod.mk.injEq, true_and, and_true, exists_eq_left', hp.p11, hk.k0, hk.k7, hR.2.1]
        rw [hyz]
        refine ⟨by omega, by omega, by omega, by omega, ⟨by omega, by omega⟩, sp_X12_at hk hp hi4 hR h6 hS ?_⟩
        generalize hx : rAt rh (H (M + 14)) nr (lvH hi l) = x at *
        have mm := mabs (show -(2 * (2 * x)) ≤ 2 * (2 * x) by omega) (Int.le_refl _) hsm.1 hsm.2
        obtain ⟨sp, hsp⟩ : ∃ sp : Nat, sp = if hi = 0 then l else 99 - l := ⟨_, rfl⟩
        have hsp100 : sp < 100 := by rw [hsp]; split <;> omega
        have hst1 := st_nn hf.1 hB hi l
        have hst2 := st_le hf.1 hf.2 hB hi l
        have hst : f * wAt bw bf bt nb (sp : Int) = stF f bw bf bt nb hi l := by
          unfold stF
          congr 2
          rw [hsp]
          split <;> omega
        have e100 : (100 * (i : Int) + (sp : Int)).toNat = 100 * i + sp := by omega
        have g204 : FX12_go_204 d K H q (M : Int) (i : Int) n hi (push + 2 * x) (sgF hi * B + 2 * (2 * x) * (sgF hi * (armF z hi - (l : Int)))) (-sgF hi) (lvH hi l) (sgF hi * (armF z hi - (l : Int))) (sp : Int) := by
          rw [tw_step]
          have hB' : -(240000 + 200 * (4002400 - (n - (push + 2 * x)))) ≤ B + 2 * (2 * x) * (armF z hi - (l : Int)) ∧ B + 2 * (2 * x) * (armF z hi - (l : Int)) ≤ 240000 + 200 * (4002400 - (n - (push + 2 * x))) := by
            have ham : -100 ≤ armF z hi - (l : Int) ∧ armF z hi - (l : Int) ≤ 100 := by unfold armF; split <;> omega
            have := mabs (show -(2 * (2 * x)) ≤ 2 * (2 * x) by omega) (Int.le_refl _) ham.1 ham.2
            omega
          generalize hBB : B + 2 * (2 * x) * (armF z hi - (l : Int)) = B' at *
          have hsB' : -(240000 + 200 * (4002400 - (n - (push + 2 * x)))) ≤ sgF hi * B' ∧ sgF hi * B' ≤ 240000 + 200 * (4002400 - (n - (push + 2 * x))) := by rcases hsg with e | e <;> rw [e] <;> omega
          refine bX12_go_204 ⟨fun h => absurd h (by omega), fun _ => ⟨fun _ => ?_, fun h => absurd (by omega) h⟩⟩
          simp only [Int.toNat_natCast, Option.some.injEq, Prod.mk.injEq, true_and, and_true, exists_eq_left', hp.p10, hp.p15, hk.k0, hk.k6, hk.k11, hR.1, e100, hR.2.2.2.2.2.1 sp hsp100]
          rw [hst]
          unfold strip at hrw
          rw [show n - push - 2 * x = n - (push + 2 * x) by omega] at hrw
          generalize hS2 : stF f bw bf bt nb hi l = st at *
          have g316 : ¬ (0 < st ∧ n - (push + 2 * x) ≤ st) → FX12_go_316 d K H q (M : Int) (i : Int) n hi (push + 2 * x) (sgF hi * B') (-sgF hi) (lvH hi l) (sgF hi * (armF z hi - (l : Int))) st := by
            intro hne
            rw [if_neg hne] at hrw
            have hgt : st < n - (push + 2 * x) := by
              rcases Int.lt_or_le st (n - (push + 2 * x)) with g | g
              · exact g
              · exfalso; exact hne ⟨by omega, g⟩
            have hs1 : -1 ≤ sgF hi ∧ sgF hi ≤ 1 := by rcases hsg with e | e <;> rw [e] <;> omega
            have ham : -200 ≤ 2 * (armF z hi - (l : Int)) - 1 ∧ 2 * (armF z hi - (l : Int)) - 1 ≤ 200 := by unfold armF; split <;> omega
            have m6 := mabs (show -st ≤ st by omega) (Int.le_refl _) (show -201 ≤ 2 * (sgF hi * (armF z hi - (l : Int))) + -sgF hi by omega) (show 2 * (sgF hi * (armF z hi - (l : Int))) + -sgF hi ≤ 201 by omega)
            have m7 := mabs (show -st ≤ st by omega) (Int.le_refl _) ham.1 ham.2
            refine bX12_go_316 ⟨⟨by omega, by omega⟩, ⟨by omega, by omega⟩, ⟨by omega, by omega⟩, ⟨by omega, by omega⟩, ⟨by omega, by omega⟩, bX12_go_341 ⟨⟨by omega, by omega⟩, ?_⟩⟩
            rw [tw_unit, ← hnl]
            refine ih (l + 1) (by omega) (push + 2 * x + st) _ ?_ (by omega) (by omega) (by omega) (by omega) (by omega) (by omega)
            rw [show n - (push + 2 * x + st) = n - (push + 2 * x) - st by omega]
            exact hrw
          refine ⟨by omega, by omega, by omega, by omega, ⟨by omega, by omega⟩, ⟨by omega, by omega⟩, by omega, by omega, by omega, ⟨by omega, by omega⟩, ⟨by omega, by omega⟩, fun h => g316 (fun g => by omega), fun h => ⟨fun h2 => g316 (fun g => h2 g.2), fun h2 => ?_⟩⟩
          rw [if_pos ⟨by omega, h2⟩] at hrw
          have hinj := Option.some.inj hrw
          simp only [Prod.mk.injEq] at hinj
          obtain ⟨i1, i2, i3, i4⟩ := hinj
          have hnd : 0 ≤ n - (push + 2 * x) := by omega
          generalize hnn : n - (push + 2 * x) = r at *
          have m8 := mabs (show -(2 * r) ≤ 2 * r by omega) (Int.le_refl _) hsm.1 hsm.2
          have m9 := mabs (show -1000000000 ≤ sgF hi * B' + 2 * r * (sgF hi * (armF z hi - (l : Int))) by omega) (show sgF hi * B' + 2 * r * (sgF hi * (armF z hi - (l : Int))) ≤ 1000000000 by omega) (show -40000 ≤ st by omega) hst2
          have m10 : -4002400 ≤ -sgF hi * r ∧ -sgF hi * r ≤ 4002400 := by rcases hsg with e | e <;> rw [e] <;> omega
          have m11 := mabs m10.1 m10.2 (show -4002400 ≤ r by omega) (show r ≤ 4002400 by omega)
          have m12 := mabs (show -100 ≤ lvH hi l by omega) hl0.2 (show -40000 ≤ st by omega) hst2
          refine ⟨⟨by omega, by omega⟩, ⟨by omega, by omega⟩, ⟨by omega, by omega⟩, ⟨by omega, by omega⟩, ⟨by omega, by omega⟩, ⟨by omega, by omega⟩, ⟨by omega, by omega⟩, ⟨by omega, by omega⟩, ⟨by omega, by omega⟩, ⟨by omega, by omega⟩, sp_X12_found hk ?_⟩
          intro H' c0 c1 c2 c3 c4 c5
          refine hq H' c0 c1 ?_ ?_ ?_ ?_
          · rw [c2, tw_step, fin_N2, i1]
          · rw [c3, i2]
          · rw [c4, ← i3, ← i4]
            unfold lvH cutT sgF
            by_cases h0 : hi = 0
            · rw [if_pos h0, if_pos h0, if_pos h0]; omega
            · rw [if_neg h0, if_neg h0, if_neg h0, Int.sub_mul]; omega
          · rw [c5, i4]
        refine ⟨⟨by omega, by omega⟩, ⟨by omega, by omega⟩, fun _ => ⟨⟨by omega, by omega⟩, ⟨by omega, by omega⟩, ⟨by omega, by omega⟩, ⟨by omega, by omega⟩, fun h0 => ?_, fun h0 => ⟨⟨by omega, by omega⟩, ?_⟩⟩, fun h => absurd h hc⟩
        · have e : (sp : Int) = lvH hi l := by rw [hsp]; unfold lvH; rw [if_pos h0, if_pos h0]
          rw [e] at g204; exact g204
        · have e : (sp : Int) = lvH hi l - 1 := by rw [hsp]; unfold lvH; rw [if_neg h0, if_neg h0]; omega
          rw [e] at g204; exact g204
  have e2 : -2 * bnd0 z rh (H (M + 14)) nr = sgF hi * (sgF hi * (-2 * bnd0 z rh (H (M + 14)) nr)) := by rcases hsg with e | e <;> rw [e] <;> omega
  have e3 : -240000 ≤ sgF hi * (-2 * bnd0 z rh (H (M + 14)) nr) ∧ sgF hi * (-2 * bnd0 z rh (H (M + 14)) nr) ≤ 240000 := by rcases hsg with e | e <;> rw [e] <;> omega
  have st94 := lp 100 0 (by omega) (-sumN (H (M + 14)) nr) (sgF hi * (-2 * bnd0 z rh (H (M + 14)) nr)) (by rw [show n - -sumN (H (M + 14)) nr = n + sumN (H (M + 14)) nr by omega]; exact hW) (by omega) (by omega) (by omega) (by omega) (by omega) (by omega)
  rw [← e2] at st94
  have lp14 : ∀ (m k : Nat), k + m = nr → FX12_go_14 d K H q (M : Int) (i : Int) n hi (-sumN (H (M + 14)) nr) (-2 * bnd0 z rh (H (M + 14)) k) (k : Int) := by
    intro m
    induction m with
    | zero =>
      intro k hkk
      have e : k = nr := by omega
      subst e
      refine bX12_go_14 ?_
      simp only [Int.toNat_natCast, Option.some.injEq, Prod.mk.injEq, true_and, and_true, exists_eq_left', hp.p13, hk.k0, hk.k9, hR.2.2.2.1]
      refine ⟨by omega, by omega, by omega, by omega, fun _ => ⟨fun h0 => ⟨fun _ => ?_, fun h => absurd h0 h⟩, fun h0 => ⟨fun h => absurd h h0, fun _ => ?_⟩⟩, fun h => absurd h (by omega)⟩
      · unfold sgF lvH at st94
        rw [if_pos h0, if_pos h0] at st94
        exact st94
      · unfold sgF lvH at st94
        rw [if_neg h0, if_neg h0] at st94
        exact st94
    | succ m ih =>
      intro k hkk
      have h1 := bnd0_bd hz hRB hSn k (by omega)
      have h2 := hSn k (by omega)
      have h3 := hRB.2 k (by omega)
      have h4 := mabs (show -200 ≤ H (M + 14) k by omega) (show H (M + 14) k ≤ 200 by omega) (show -100 ≤ rh k - z by omega) (show rh k - z ≤ 100 by omega)
      have e6 : (6 * (i : Int) + (k : Int)).toNat = 6 * i + k := by omega
      have e7 : 2 * H (M + 14) k * (rh k - z) = 2 * (H (M + 14) k * (rh k - z)) := Int.mul_assoc _ _ _
      have e8 : -2 * bnd0 z rh (H (M + 14)) k - 2 * (H (M + 14) k * (rh k - z)) = -2 * bnd0 z rh (H (M + 14)) (k + 1) := by
        show _ = -2 * (bnd0 z rh (H (M + 14)) k + H (M + 14) k * (rh k - z))
        omega
      refine bX12_go_14 ?_
      simp only [Int.toNat_natCast, Option.some.injEq, Prod.mk.injEq, true_and, and_true, exists_eq_left', hp.p13, hp.p18, hp.p16, hp.p11, hk.k0, hk.k9, hk.k14, hk.k12, hk.k7, hR.2.2.2.1, hR.2.1, e6, hR.2.2.2.2.2.2 k (by omega), e7, e8]
      have := ih (k + 1) (by omega)
      have h5 := bnd0_bd hz hRB hSn (k + 1) (by omega)
      exact ⟨by omega, by omega, by omega, by omega, fun h => absurd (by omega) h, fun _ => ⟨by omega, by omega, by omega, ⟨by omega, by omega⟩, ⟨by omega, by omega⟩, ⟨by omega, by omega⟩, by omega, by omega, by omega, by omega, by omega, ⟨by omega, by omega⟩, ⟨by omega, by omega⟩, ⟨by omega, by omega⟩, ⟨by omega, by omega⟩, this⟩⟩
  exact lp14 nr 0 (by omega)
