/-! RodBeam$Chooser: choose, findBest -/
section Fnd
variable {d : Nat} {K : Shp} {H G : Mem} {X s nb nr np nz ka w : Nat}
/-- after the digits below t -/
def CndT (G G1 : Mem) (s nr : Nat) (e : Nat → Nat) (pst : Int) (c : Nat → Nat) (a t : Nat) : Prop := (DonB G s nr e pst → DonB G1 s nr e pst) ∧ (BefB G s pst → eqP c e a → (e a < t → DonB G1 s nr e pst) ∧ (t ≤ e a → BefB G1 s pst)) ∧ (BefB G s pst → ltP c e a → BefB G1 s pst)
theorem CndT.step {G1 G2 : Mem} {e c : Nat → Nat} {pst : Int} {a t : Nat} (h : CndT G G1 s nr e pst c a t) (p : PostB G1 G2 s nr e pst (cU c a t) (a + 1)) : CndT G G2 s nr e pst c a (t + 1) := by
  refine ⟨fun dn => p.1 (h.1 dn), fun bf eq => ⟨fun l => ?_, fun l => ?_⟩, fun bf lt => ?_⟩
  · have g := h.2.1 bf eq
    by_cases x : e a < t
    · exact p.1 (g.1 x)
    · refine p.2.1 (g.2 (by omega)) (fun j hj => ?_)
      by_cases y : j = a
      · rw [y, cU_at]; omega
      · rw [cU_ne y]; exact eq j (by omega)
  · have g := h.2.1 bf eq
    exact p.2.2 (g.2 (by omega)) ⟨a, by omega, fun j hj => by rw [cU_ne (by omega)]; exact eq j hj, by rw [cU_at]; omega⟩
  · obtain ⟨a', l1, l2, l3⟩ := id lt
    exact p.2.2 (h.2.2 bf lt) ⟨a', by omega, fun j hj => by rw [cU_ne (by omega)]; exact l2 j hj, by rw [cU_ne (by omega)]; exact l3⟩
set_option maxHeartbeats 1000000 in
theorem choose_step {a : Nat} (E : SE K H X s nb nr np nz ka w) (ha : a < nr) (IH : ChSpec K H X s nb nr np nz ka w (d + 3) (a + 1)) : ChSpec K H X s nb nr np nz ka w (d + 5) a := by
  intro c G price q I hc hp hlt sf hq
  have E0 := E
  obtain ⟨C, ⟨T, z1, z2, z3⟩, ⟨k1, k2, k3⟩, hm, best⟩ := E
  have C' := C.sr I.1
  obtain ⟨hS1, hC, hW, sI, hs⟩ := id C'
  have nr6 := sI.2.2.2.2.2.2.2.1.1
  have r7 : G s 7 = (nr : Int) := sI.2.2.2.1
  have el : ∀ k, dgt (nz + 1) nr w k < nz + 1 := fun k => dgt_lt (by omega)
  have loop : ∀ m t G1, t + m = nz → SrI H G1 X s nb nr np nz ka c a (a + 1) → CndT G G1 s nr (dgt (nz + 1) nr w) (prD (H (X + 20)) (dgt (nz + 1) nr w) nr) c a (t + 1) → FX1_choose_36 (d + 4) K G1 q ((X + 73 : Nat) : Int) (s : Int) ((X + 18 : Nat) : Int) (a : Int) price (t : Int) := by
    intro m
    induction m with
    | zero =>
      intro t G1 htm I1 cn
      have C1 := C.sr I1.1
      have e18 : G1 (X + 18) = H (X + 18) := I1.1.1 _ (by omega) (by omega) (by omega)
      have x5 : G1 (X + 73) 5 = maxN (H (X + 19)) nz := by rw [I1.1.1 _ (by omega) (by omega) (by omega)]; exact k3
      have ht : t = nz := by omega
      refine bX1_choose_36 ?_
      simp only [Int.toNat_natCast, Option.some.injEq, Prod.mk.injEq, true_and, and_true, exists_eq_left', T.1, e18, z1, hS1.k73, C1.2.1.p6, hS1.k81, x5]
      refine ⟨by omega, fun _ => ⟨by omega, by omega, by omega, by omega, fun H2 e2 => ?_⟩, fun g => by omega⟩
      have c2 : ∀ x, x ≠ X + 81 → H2 x = G1 x := fun x hx => by rw [e2, upA_ne hx]
      have v2 : H2 (X + 81) = up1 (G1 (X + 81)) a (maxN (H (X + 19)) nz) := by rw [e2, upA_same]
      clear e2
      have es : H2 s = G1 s := c2 s (by omega)
      have e9 : H2 (s + 9) = G1 (s + 9) := c2 (s + 9) (by omega)
      refine hq H2 ⟨⟨fun x a1 b1 c1 => (c2 x (by omega)).trans (I1.1.1 x a1 b1 c1), by rw [c2 _ (by omega)]; exact I1.1.2.1, by rw [es]; exact I1.1.2.2⟩, ?_, fun k hk => ?_, fun k h1 h2 => ?_, ?_⟩ ⟨fun dn => (cn.1 dn).keep es e9, fun bf eq => ((cn.2.1 bf eq).1 (by have := el a; omega)).keep es e9, fun bf lt => (cn.2.2 bf lt).keep es⟩
      · rw [c2 (X + 78) (by omega), c2 (X + 79) (by omega), c2 (X + 80) (by omega)]; exact I1.2.1
      · rw [v2, up1_ne (by omega)]; exact I1.2.2.1 k hk
      · by_cases x : k = a
        · rw [x, v2, up1_same]
        · rw [v2, up1_ne x]; exact I1.2.2.2.1 k (by omega) h2
      · rw [c2 (X + 82) (by omega)]; exact I1.2.2.2.2
    | succ m ih =>
      intro t G1 htm I1 cn
      have e18 : G1 (X + 18) = H (X + 18) := I1.1.1 _ (by omega) (by omega) (by omega)
      refine bX1_choose_36 ?_
      simp only [Int.toNat_natCast, Option.some.injEq, Prod.mk.injEq, true_and, and_true, exists_eq_left', T.1, e18, z1, hS1.k73]
      refine ⟨by omega, fun g => by omega, fun _ => ⟨by omega, attempt_at (dg := t + 1) E0 ha IH I1 hc hp sf (by omega) rfl ?_⟩⟩
      intro G2 I2 P2
      exact ⟨⟨by omega, by omega⟩, ih (t + 1) G2 (by omega) I2 (cn.step P2)⟩
  refine eX1_choose fun _ _ _ => bX1_choose_0 ?_
  simp only [Int.toNat_natCast, Option.some.injEq, Prod.mk.injEq, true_and, and_true, exists_eq_left', sI.1.1, r7, hS1.k73]
  refine ⟨by omega, fun g => by omega, fun _ => ⟨fun _ => ⟨by omega, attempt_at (dg := 0) E0 ha IH ⟨I.1, I.2.1, I.2.2.1, fun k h1 h2 => I.2.2.2.1 k (by omega) h2, I.2.2.2.2⟩ hc hp sf (by omega) rfl ?_⟩, fun g => by omega⟩⟩
  intro G2 I2 P2
  refine loop nz 0 G2 (by omega) I2 (CndT.step (G := G) (G1 := G) ⟨fun x => x, fun bf _ => ⟨fun l => absurd l (by omega), fun _ => bf⟩, fun bf _ => bf⟩ P2)
theorem choose_all (E : SE K H X s nb nr np nz ka w) : ∀ r a, a + r = nr → ChSpec K H X s nb nr np nz ka w (d + 3 + 2 * r) a
  | 0, a, h => by
    have : a = nr := by omega
    rw [this]
    exact choose_leaf (d := d + 1) E
  | r + 1, a, h => by
    have i := choose_all E r (a + 1) (by omega)
    have j := choose_step (d := d + 2 * r) E (a := a) (by omega) (by rw [show d + 2 * r + 3 = d + 3 + 2 * r by omega]; exact i)
    rw [show d + 2 * r + 5 = d + 3 + 2 * (r + 1) by omega] at j
    exact j
theorem choose_top (E : SE K H X s nb nr np nz ka w) : ChSpec K H X s nb nr np nz ka w (d + 15) 0 := by
  have nr6 := E.1.2.2.2.1.2.2.2.2.2.2.2.1.1
  have := choose_all (d := d + (12 - 2 * nr)) E nr 0 (by omega)
  rw [show d + (12 - 2 * nr) + 3 + 2 * nr = d + 15 by omega] at this
  exact this
theorem bSd_us {us us' : Nat → Int} {hi n m : Int} (h : ∀ r, r < nr → us r = us' r) : bSd H s nb nr us hi n m = bSd H s nb nr us' hi n m := by
  unfold bSd
  exact bearS_congr h
def FbF (X s : Nat) (H G : Mem) : Prop := (∀ x, x < X + 73 ∨ X + 82 < x → x ≠ s → x ≠ s + 9 → G x = H x) ∧ FO [1, 5] (H (X + 73)) (G (X + 73)) ∧ WkP (G (X + 74)) (X + 74) ∧ FO [14, 15, 16] (H s) (G s)
set_option maxHeartbeats 2000000 in
theorem sp_X1_findBest {q : Int → Mem → Prop} (C : ChE K H X s nb nr) (P : PrI K H X np) (T : TriK 6 4 K H (X + 18)) (z1 : H (X + 18) 0 = (nz : Int)) (z2 : nz ≤ 4) (z3 : ∀ k, k < nz → (1 ≤ H (X + 19) k ∧ H (X + 19) k ≤ 200) ∧ 1 ≤ H (X + 20) k ∧ H (X + 20) k ≤ 10000)
    (bp : BestP (bearOf H s nb nr) np (H (X + 16)) (H (X + 17)) nz (H (X + 19)) (H (X + 20)) nr (H s) (H (s + 9)))
    (h0 : ∀ G', FbF X s H G' → G' s 14 = 1 → G' s 15 = 0 → (∀ w, w < (nz + 1) ^ nr → ¬ safeW (bearOf H s nb nr) np (H (X + 16)) (H (X + 17)) (usW (H (X + 19)) nz nr w)) → q 0 G')
    (h1 : ∀ G' w, FbF X s H G' → G' s 14 = 1 → G' s 15 = 1 → IsBest (bearOf H s nb nr) np (H (X + 16)) (H (X + 17)) nz (H (X + 19)) (H (X + 20)) nr w → G' s 16 = prW (H (X + 20)) nz nr w → (∀ r, r < nr → G' (s + 9) r = codeD (dgt (nz + 1) nr w r)) → q 1 G') :
    Ci mX1_findBest (d + 16) [(2, ((X + 73 : Nat) : Int)), (2, (s : Int)), (2, ((X + 15 : Nat) : Int)), (2, ((X + 18 : Nat) : Int))] K H q := by
  obtain ⟨hS1, hC, hW, sI, hs⟩ := id C
  have nr6 := sI.2.2.2.2.2.2.2.1.1
  have mN := maxN_le (f := H (X + 19)) (u := 200) (by decide) (n := nz) (fun k hk => (z3 k hk).1.2)
  have hfr : FbF X s H H := ⟨fun _ _ _ _ => rfl, FO.rf, hW, FO.rf⟩
  refine eX1_findBest fun _ => bX1_findBest_0 ?_
  simp only [Int.toNat_natCast, Option.some.injEq, Prod.mk.injEq, true_and, and_true, exists_eq_left', sI.1.1]
  rcases bp with g14 | ⟨g14, g | ⟨g15, w, ib, g16, pk⟩⟩
  · refine ⟨by omega, fun _ => ?_, fun g => absurd g14 g⟩
    simp only [Int.toNat_natCast, Option.some.injEq, Prod.mk.injEq, true_and, and_true, exists_eq_left', hS1.k73, hC.p6]
    refine ⟨by omega, (sp_filli hS1.k81 (by decide)).mono ?_⟩
    rintro H1 ⟨f, e1, f0⟩
    have c1 : ∀ x, x ≠ X + 81 → H1 x = H x := fun x hx => by rw [e1, upA_ne hx]
    have v1 : H1 (X + 81) = f := by rw [e1, upA_same]
    clear e1
    have C1 : ChE K H1 X s nb nr := ⟨hS1, by rw [c1 _ (by omega)]; exact hC, by rw [c1 _ (by omega)]; exact hW, sI.keepc (fun j hj => c1 _ (by omega)), hs⟩
    have P1 : PrI K H1 X np := by
      unfold PrI at *
      rw [c1 (X + 15) (by omega), c1 (X + 17) (by omega)]; exact P
    refine sp_X1_listAsks (d := d + 11) (Z := fun hi n m => bSd H s nb nr (fun _ => 0) hi n m = true) C1 P1 (fun k hk => by rw [v1, f0 k (by omega)]; decide) (fun hi n m hb => ?_) ?_
    · rw [bSd_cells (H := H) (fun j hj => c1 _ (by omega)), bSd_us (us' := fun _ => 0) (fun r hr => by rw [v1, f0 r (by omega)])] at hb
      exact hb
    intro H2 ka c2 C2 o2 k1 k2 ask
    rw [c1 (X + 16) (by omega), c1 (X + 17) (by omega)] at ask
    have c12 : ∀ x, x < X + 73 ∨ X + 82 < x → H2 x = H x := fun x hx => (c2 x (by omega)).trans (c1 x (by omega))
    simp only [Int.toNat_natCast, Option.some.injEq, Prod.mk.injEq, true_and, and_true, exists_eq_left', T.1]
    refine ⟨by omega, (sp_X6_strongest (d := d + 14) (T.sr (c12 (X + 18) (by omega))) (by rw [c12 _ (by omega)]; exact z1) z2).mono ?_⟩
    rintro y H2' ⟨ey, eH⟩ H3 e3
    rw [c12 (X + 18 + 1) (by omega)] at ey
    rw [eH, ey] at e3
    clear ey eH
    have c3 : ∀ x, x ≠ X + 73 → H3 x = H2 x := fun x hx => by rw [e3, upA_ne hx]
    have v3 : H3 (X + 73) = up1 (H2 (X + 73)) 5 (maxN (H (X + 18 + 1)) nz) := by rw [e3, upA_same]
    clear e3
    have o3 : FO [5] (H2 (X + 73)) (H3 (X + 73)) := by rw [v3]; exact FO.up rfl
    have x5 : H3 (X + 73) 5 = maxN (H (X + 19)) nz := by rw [v3, up1_same]
    have hC3 : ChP (H3 (X + 73)) X := C2.2.1.fo o3 rfl
    simp only [Int.toNat_natCast, Option.some.injEq, Prod.mk.injEq, true_and, and_true, exists_eq_left', hC3.p6, x5]
    refine (sp_filli hS1.k81 (by decide)).mono ?_
    rintro H4 ⟨g, e4, g0⟩ H5 e5 H6 e6 H7 e7
    have c4 : ∀ x, x ≠ X + 81 → H4 x = H3 x := fun x hx => by rw [e4, upA_ne hx]
    have v4 : H4 (X + 81) = g := by rw [e4, upA_same]
    have c7 : ∀ x, x ≠ s → H7 x = H4 x := fun x hx => by rw [e7, upA_ne hx, e6, upA_ne hx, e5, upA_ne hx]
    have v7 : H7 s = up1 (up1 (up1 (H4 s) 14 1) 15 0) 16 60001 := by rw [e7, upA_same, e6, upA_same, e5, upA_same]
    clear e4 e5 e6 e7
    have cH : ∀ x, x < X + 73 ∨ X + 82 < x → x ≠ s → H7 x = H x := fun x hx hy => by rw [c7 x hy, c4 x (by omega), c3 x (by omega), c12 x hx]
    have s4 : H4 s = H s := by rw [c4 s (by omega), c3 s (by omega), c12 s (by omega)]
    have os : FO [14, 15, 16] (H s) (H7 s) := by rw [v7, s4]; exact ((FO.up rfl : FO [14, 15, 16] (H s) _).same (FO.up rfl)).same (FO.up rfl)
    have y14 : H7 s 14 = 1 := by rw [v7, up1_ne (by decide), up1_ne (by decide), up1_same]
    have y15 : H7 s 15 = 0 := by rw [v7, up1_ne (by decide), up1_same]
    have y16 : H7 s 16 = 60001 := by rw [v7, up1_same]
    have m73 : H7 (X + 73) = H3 (X + 73) := by rw [c7 _ (by omega), c4 _ (by omega)]
    have w7 : WkP (H7 (X + 74)) (X + 74) := by rw [c7 _ (by omega), c4 _ (by omega), c3 _ (by omega)]; exact C2.2.2.1
    have C7 : ChE K H7 X s nb nr := ⟨hS1, by rw [m73]; exact hC3, w7, sI.fo os (fun j a b => cH _ (by omega) (by omega)), hs⟩
    have t7 : ∀ k, k < 6 → H7 (X + 81) k = maxN (H (X + 19)) nz := fun k hk => by rw [c7 _ (by omega), v4]; exact g0 k hk
    have hT7 : StrB (H7 (X + 81)) nr := fun k hk => by rw [t7 k (by omega)]; exact mN
    have ask7 : AskD (fun hi n m => bSd H s nb nr (fun _ => 0) hi n m = true) (fun p hi => p < np ∧ (hi = 0 ∨ hi = 1)) np (H (X + 16)) (H (X + 17)) ka (H7 (X + 78)) (H7 (X + 79)) (H7 (X + 80)) := by
      rw [c7 (X + 78) (by omega), c4 (X + 78) (by omega), c3 (X + 78) (by omega), c7 (X + 79) (by omega), c4 (X + 79) (by omega), c3 (X + 79) (by omega), c7 (X + 80) (by omega), c4 (X + 80) (by omega), c3 (X + 80) (by omega)]
      exact ask
    have o73 : FO [1, 5] (H (X + 73)) (H7 (X + 73)) := by
      rw [m73, ← c1 (X + 73) (by omega)]
      exact (o2.wide rfl).same (o3.wide rfl)
    have bb : ∀ us hi n m, bSd H7 s nb nr us hi n m = bSd H s nb nr us hi n m := fun us hi n m => bSd_fo os (fun j x y => cH _ (by omega) (by omega))
    have k7 : H7 (X + 73) 1 = (ka : Int) := by rw [m73, o3 1 rfl]; exact k1
    have x7 : H7 (X + 73) 5 = maxN (H (X + 19)) nz := by rw [m73]; exact x5
    clear c7 c4 c3 v7 v4 v3 s4 c12 c2 c1 C1 P1 hC3 o3 m73 o2 C2
    refine sp_X1_bearsAll (d := d + 12) (np := np) C7 hT7 k7 k2 P.2.2.2 ask7 (fun G3 f3 w3 a3 al => ?_) (fun G3 f3 w3 a3 al => ?_)
    · have sf : safeW (bearOf H s nb nr) np (H (X + 16)) (H (X + 17)) (H7 (X + 81)) := (ask_safe sI hT7 ask7).mp (fun j hj => by rw [← bb]; exact al j hj)
      have gs : G3 s = H7 s := f3 s (by omega)
      have gc : ∀ x, x < X + 73 ∨ X + 82 < x → x ≠ s → G3 x = H x := fun x hx hy => (f3 x (by omega)).trans (cH x hx hy)
      have obs : ∀ us n m, bearOf G3 s nb nr us n m = bearOf H s nb nr us n m := fun us n m => by
        unfold bearOf
        rw [gs, os 0 rfl, os 1 rfl, gc (s + 1) (by omega) (by omega), gc (s + 2) (by omega) (by omega), gc (s + 3) (by omega) (by omega), gc (s + 4) (by omega) (by omega)]
      have obf : bearOf G3 s nb nr = bearOf H s nb nr := funext fun us => funext fun n => funext fun m => obs us n m
      have e16 := gc (X + 16) (by omega) (by omega)
      have e17 := gc (X + 17) (by omega) (by omega)
      have e19 := gc (X + 19) (by omega) (by omega)
      have e20 := gc (X + 20) (by omega) (by omega)
      obtain ⟨dg, dg1, dg2⟩ := maxN_at (f := H (X + 19)) (n := nz)
      obtain ⟨w, ib⟩ : ∃ w, IsBest (bearOf H s nb nr) np (H (X + 16)) (H (X + 17)) nz (H (X + 19)) (H (X + 20)) nr w := by
        rcases best_ex (B := bearOf H s nb nr) (np := np) (pn := H (X + 16)) (pm := H (X + 17)) (nz := nz) (st := H (X + 19)) (pr := H (X + 20)) (nr := nr) ((nz + 1) ^ nr) with no | ⟨w, hw⟩
        · exfalso
          refine no (hor (nz + 1) (fun _ => dg) nr) (hor_lt (fun _ _ => dg1)) (safe_mono sI (fun k hk => ?_) sf)
          rw [t7 k (by omega), usW_D, usD_congr (fun k hk => dgt_hor hk (fun _ _ => dg1))]
          unfold usD
          rw [if_pos hk, dg2]
          omega
        · exact ⟨w, hw⟩
      have SE3 : SE K G3 X s nb nr np nz ka w := by
        refine ⟨⟨hS1, by rw [f3 _ (by omega)]; exact C7.2.1, w3, C7.2.2.2.1.keepc (fun j hj => f3 _ (by omega)), hs⟩, ⟨T.sr (gc _ (by omega) (by omega)), by rw [gc _ (by omega) (by omega)]; exact z1, z2, by rw [e19, e20]; exact z3⟩, ⟨by rw [f3 _ (by omega)]; exact k7, k2, by rw [f3 (X + 73) (by omega), e19]; exact x7⟩, by rw [e17]; exact P.2.2.2, ?_⟩
        rw [obf, e16, e17, e19, e20]; exact ib
      have bG : ∀ us hi n m, bSd G3 s nb nr us hi n m = bSd H s nb nr us hi n m := fun us hi n m => by rw [← bb]; exact bSd_cells (fun j hj => f3 _ (by omega))
      have zeq : (fun (hi n m : Int) => bSd G3 s nb nr (fun _ => 0) hi n m = true) = (fun hi n m => bSd H s nb nr (fun _ => 0) hi n m = true) := funext fun hi => funext fun n => funext fun m => by rw [bG]
      have pb := prD_bd (c := dgt (nz + 1) nr w) (fun k hk => (z3 k hk).2) (n := nr) (fun k _ => dgt_lt (by omega))
      refine ⟨fun g => absurd g (by decide), fun _ => ?_⟩
      refine choose_top (d := d) SE3 (fun _ => 0) G3 0 _ ⟨⟨fun _ _ _ _ => rfl, w3, FO.rf⟩, ?_, fun k hk => absurd hk (by omega), fun k _ h2 => by rw [f3 (X + 81) (by omega), e19]; exact t7 k h2, fun k hk => absurd hk (by omega)⟩ (fun k hk => absurd hk (by omega)) rfl (by rw [gs, y16]; decide) ?_ ?_
      · rw [zeq, e16, e17]; exact a3
      · rw [obf, e16, e17, e19]
        refine safe_mono sI (fun k hk => ?_) sf
        rw [t7 k (by omega)]
        unfold mixU
        rw [if_neg (by omega)]
        omega
      · intro G4 I4 P4
        have dn := P4.2.1 (by show _ < G3 s 16; rw [gs, y16, e20]; omega) (fun j hj => absurd hj (by omega))
        obtain ⟨d1, d2, d3⟩ := dn
        rw [d1]
        refine ⟨Or.inr rfl, h1 G4 w ⟨fun x a1 b1 c1 => (I4.1.1 x (by omega) b1 c1).trans (gc x a1 b1), ?_, I4.1.2.1, ?_⟩ ?_ d1 ib ?_ d3⟩
        · rw [I4.1.1 (X + 73) (by omega) (by omega) (by omega), f3 _ (by omega)]; exact o73
        · have o4 := I4.1.2.2
          rw [gs] at o4
          exact os.same (o4.wide rfl)
        · rw [I4.1.2.2 14 rfl, gs]; exact y14
        · rw [d2, e20]; rfl
    · have gs : G3 s = H7 s := f3 s (by omega)
      refine ⟨fun _ => ?_, fun g => absurd rfl g⟩
      rw [gs, y15]
      refine ⟨Or.inl rfl, h0 G3 ⟨fun x a1 b1 c1 => (f3 x (by omega)).trans (cH x a1 b1), by rw [f3 _ (by omega)]; exact o73, w3, by rw [gs]; exact os⟩ (by rw [gs]; exact y14) (by rw [gs]; exact y15) (fun w hw hsf => al ?_)⟩
      have sf : safeW (bearOf H s nb nr) np (H (X + 16)) (H (X + 17)) (H7 (X + 81)) := safe_mono sI (fun k hk => by
        rw [t7 k (by omega)]
        have b := chS_bd (f := H (X + 19)) (u := 200) (nz := nz) (by decide) (fun k hk => (z3 k hk).1) (dgt_lt (b := nz + 1) (n := nr) (w := w) (k := k) (by omega))
        unfold usW
        rw [if_pos hk]
        omega) hsf
      exact fun j hj => by rw [bb]; exact (ask_safe sI hT7 ask7).mpr sf j hj
  · refine ⟨by omega, fun x => by omega, fun _ => ?_⟩
    rw [g.1]
    exact ⟨Or.inl rfl, h0 H hfr g14 g.1 g.2⟩
  · refine ⟨by omega, fun x => by omega, fun _ => ?_⟩
    rw [g15]
    exact ⟨Or.inr rfl, h1 H w hfr g14 g15 ib g16 pk⟩
end Fnd
