/-! side by side: take -/
def cntF (old u : Nat → Int) (n : Nat) : Int := sumN (fun r => if old r = u r then 0 else 1) n
theorem cntF_bd {old u : Nat → Int} : ∀ n : Nat, 0 ≤ cntF old u n ∧ cntF old u n ≤ (n : Int)
  | 0 => ⟨Int.le_refl 0, Int.le_refl 0⟩
  | n + 1 => by
    have i := cntF_bd (old := old) (u := u) n
    show 0 ≤ cntF old u n + (if old n = u n then 0 else 1) ∧ cntF old u n + (if old n = u n then 0 else 1) ≤ _
    split <;> omega
section Tk
variable {d : Nat} {K : Shp} {H G : Mem} {X M : Nat}
set_option maxHeartbeats 1000000 in
theorem sp_X11_carryOut {s nr nz : Nat} {e : Nat → Nat} {q : Int → Mem → Prop} (hX : K[X]? = some (11, 8)) (hX4 : G X 4 = ((X + 18 : Nat) : Int)) (hs : X + 83 ≤ s) (sS : SecS K s) (r7 : G s 7 = (nr : Int)) (nr6 : nr ≤ 6) (p9 : G s 9 = ((s + 5 : Nat) : Int)) (p17 : G s 17 = ((s + 9 : Nat) : Int)) (T : TriK 6 4 K G (X + 18)) (z1 : G (X + 18) 0 = (nz : Int)) (z2 : nz ≤ 4) (pk : ∀ r, r < nr → G (s + 9) r = codeD (e r)) (el : ∀ r, e r < nz + 1)
    (hq : ∀ G', (∀ x, x ≠ s + 5 → G' x = G x) → (∀ r, r < nr → G' (s + 5) r = chS (G (X + 19)) (e r)) → q (cntF (G (s + 5)) (fun r => chS (G (X + 19)) (e r)) nr) G') : Ci mX11_carryOut (d + 1) [(2, (X : Int)), (2, (s : Int))] K G q := by
  have loop : ∀ m r G1 v, r + m = nr → (∀ x, x ≠ s + 5 → G1 x = G x) → (∀ j, j < r → G1 (s + 5) j = chS (G (X + 19)) (e j)) → (∀ j, r ≤ j → G1 (s + 5) j = G (s + 5) j) → v = cntF (G (s + 5)) (fun r => chS (G (X + 19)) (e r)) r → FX11_carryOut_4 d K G1 q (X : Int) (s : Int) v (r : Int) := by
    intro m
    induction m with
    | zero =>
      intro r G1 v hm c u1 u2 hv
      have er : r = nr := by omega
      rw [er] at u1 hv
      refine bX11_carryOut_4 ?_
      simp only [Int.toNat_natCast, Option.some.injEq, Prod.mk.injEq, true_and, and_true, exists_eq_left', sS.1, c s (by omega), r7]
      exact ⟨by omega, fun _ => by rw [hv]; exact hq G1 c u1, fun g => by omega⟩
    | succ m ih =>
      intro r G1 v hm c u1 u2 hv
      have vb := cntF_bd (old := G (s + 5)) (u := fun r => chS (G (X + 19)) (e r)) r
      have cs : cntF (G (s + 5)) (fun r => chS (G (X + 19)) (e r)) (r + 1) = cntF (G (s + 5)) (fun r => chS (G (X + 19)) (e r)) r + (if G (s + 5) r = chS (G (X + 19)) (e r) then 0 else 1) := rfl
      have e18 := c (X + 18) (by omega)
      refine bX11_carryOut_4 ?_
      simp only [Int.toNat_natCast, Option.some.injEq, Prod.mk.injEq, true_and, and_true, exists_eq_left', sS.1, c s (by omega), r7, hX, p17, sS.2.2.2.2.2.2.2.2.2, c X (by omega), hX4, T.1, c (s + 9) (by omega), pk r (by omega)]
      refine ⟨by omega, fun g => by omega, fun _ => ⟨by omega, by omega, by omega, by omega, by omega, (sp_X6_strengthOf (T.sr e18) (by rw [e18]; exact z1) z2).mono ?_⟩⟩
      rintro x H' ⟨ex, eH⟩
      rw [codeD_sz (el r), c (X + 18 + 1) (by omega)] at ex
      rw [eH]
      simp only [Int.toNat_natCast, Option.some.injEq, Prod.mk.injEq, true_and, and_true, exists_eq_left', c s (by omega), p9, sS.2.2.2.2.2.1, u2 r (Nat.le_refl _)]
      rw [ex]
      refine ⟨by omega, by omega, fun g => ⟨⟨by omega, by omega⟩, ih (r + 1) G1 v (by omega) c (fun j hj => ?_) (fun j hj => u2 j (by omega)) ?_⟩, fun g H2 e2 => ⟨⟨by omega, by omega⟩, ⟨by omega, by omega⟩, ih (r + 1) H2 (v + 1) (by omega) (fun x hx => by rw [e2, upA_ne hx]; exact c x hx) (fun j hj => ?_) (fun j hj => ?_) ?_⟩⟩
      · by_cases x : j = r
        · rw [x, u2 r (Nat.le_refl _)]; exact g
        · exact u1 j (by omega)
      · rw [cs, if_pos g, hv]; omega
      · rw [e2, upA_same]
        by_cases x : j = r
        · rw [x, up1_same]
        · rw [up1_ne x]; exact u1 j (by omega)
      · rw [e2, upA_same, up1_ne (by omega)]; exact u2 j (by omega)
      · rw [cs, if_neg g, hv]
  refine eX11_carryOut fun _ => bX11_carryOut_0 ?_
  exact loop nr 0 G 0 (by omega) (fun _ _ => rfl) (fun j hj => absurd hj (by omega)) (fun _ _ => rfl) rfl
set_option maxHeartbeats 2000000 in
theorem ref_take {i nr nz : Nat} {e : Nat → Nat} {st : Nat → Int} {q : Int → Mem → Prop} (hk : RefS K M) (hp : RefP (G M) M) (hi : i < 4) (r9 : G (M + 9) i = (nr : Int)) (nr6 : nr ≤ 6) (z2 : nz ≤ 4) (hst : ∀ k, k < nz → G (M + 17) k = st k) (ch : ∀ r, r < nr → G (M + 19) r = (e r : Int) - 1) (el : ∀ r, e r < nz + 1)
    (hq : ∀ G', (∀ x, x ≠ M + 13 → G' x = G x) → (∀ r, r < nr → G' (M + 13) (6 * i + r) = chS st (e r)) → (∀ j r, j ≠ i → r < 6 → G' (M + 13) (6 * j + r) = G (M + 13) (6 * j + r)) → q (cntF (fun r => G (M + 13) (6 * i + r)) (fun r => chS st (e r)) nr) G') :
    FX12_take_36 d K G q (M : Int) (i : Int) 0 0 := by
  have loop : ∀ m r G1 v, r + m = nr → (∀ x, x ≠ M + 13 → G1 x = G x) → (∀ j, j < r → G1 (M + 13) (6 * i + j) = chS st (e j)) → (∀ t, t < 6 * i ∨ 6 * i + r ≤ t → G1 (M + 13) t = G (M + 13) t) → v = cntF (fun r => G (M + 13) (6 * i + r)) (fun r => chS st (e r)) r → FX12_take_36 d K G1 q (M : Int) (i : Int) v (r : Int) := by
    intro m
    induction m with
    | zero =>
      intro r G1 v hm c u1 u2 hv
      have er : r = nr := by omega
      rw [er] at u1 u2 hv
      refine bX12_take_36 ?_
      simp only [Int.toNat_natCast, Option.some.injEq, Prod.mk.injEq, true_and, and_true, exists_eq_left', hk.k0, c M (by omega), hp.p13, hk.k9, c (M + 9) (by omega), r9]
      exact ⟨by omega, by omega, by omega, by omega, fun _ => by rw [hv]; exact hq G1 c u1 (fun j r' h1 h2 => u2 _ (by omega)), fun g => by omega⟩
    | succ m ih =>
      intro r G1 v hm c u1 u2 hv
      have vb := cntF_bd (old := fun r => G (M + 13) (6 * i + r)) (u := fun r => chS st (e r)) r
      have cs : cntF (fun r => G (M + 13) (6 * i + r)) (fun r => chS st (e r)) (r + 1) = cntF (fun r => G (M + 13) (6 * i + r)) (fun r => chS st (e r)) r + (if G (M + 13) (6 * i + r) = chS st (e r) then 0 else 1) := rfl
      have i6 : 6 * (i : Int) + (r : Int) = ((6 * i + r : Nat) : Int) := by omega
      have nx1 : ¬ G (M + 13) (6 * i + r) = chS st (e r) → (inI (v + 1)) ∧ ∀ H2 : Mem, H2 = upA G1 (M + 13) (up1 (G1 (M + 13)) (6 * i + r) (chS st (e r))) → (inI ((r : Int) + 1)) ∧ FX12_take_36 d K H2 q (M : Int) (i : Int) (v + 1) ((r : Int) + 1) := by
        intro g
        refine ⟨⟨by omega, by omega⟩, fun H2 e2 => ⟨⟨by omega, by omega⟩, ih (r + 1) H2 (v + 1) (by omega) (fun x hx => by rw [e2, upA_ne hx]; exact c x hx) (fun j hj => ?_) (fun t ht => ?_) (by rw [cs, if_neg g, hv])⟩⟩
        · rw [e2, upA_same]
          by_cases x : j = r
          · rw [x, up1_same]
          · rw [up1_ne (by omega)]; exact u1 j (by omega)
        · rw [e2, upA_same, up1_ne (by omega)]; exact u2 t (by omega)
      have nx0 : G (M + 13) (6 * i + r) = chS st (e r) → (inI (v + 0)) ∧ ∀ H2 : Mem, H2 = upA G1 (M + 13) (up1 (G1 (M + 13)) (6 * i + r) (chS st (e r))) → (inI ((r : Int) + 1)) ∧ FX12_take_36 d K H2 q (M : Int) (i : Int) (v + 0) ((r : Int) + 1) := by
        intro g
        refine ⟨⟨by omega, by omega⟩, fun H2 e2 => ⟨⟨by omega, by omega⟩, ih (r + 1) H2 (v + 0) (by omega) (fun x hx => by rw [e2, upA_ne hx]; exact c x hx) (fun j hj => ?_) (fun t ht => ?_) (by rw [cs, if_pos g, hv])⟩⟩
        · rw [e2, upA_same]
          by_cases x : j = r
          · rw [x, up1_same]
          · rw [up1_ne (by omega)]; exact u1 j (by omega)
        · rw [e2, upA_same, up1_ne (by omega)]; exact u2 t (by omega)
      have er := el r
      have ux := u2 (6 * i + r) (by omega)
      obtain ⟨dg, hdg⟩ : ∃ g, e r = g := ⟨_, rfl⟩
      have chr := ch r (by omega)
      rw [hdg] at nx1 nx0 er chr
      clear cs
      refine bX12_take_36 ?_
      simp only [Int.toNat_natCast, Option.some.injEq, Prod.mk.injEq, true_and, and_true, exists_eq_left', hk.k0, c M (by omega), hp.p13, hk.k9, c (M + 9) (by omega), r9, hp.p29, hk.k19, c (M + 19) (by omega), chr, i6, hp.p17, hk.k13, ux, hp.p25, hk.k17, c (M + 17) (by omega)]
      refine ⟨by omega, by omega, by omega, by omega, fun g => by omega, fun _ => ⟨by omega, by omega, by omega, fun g => ?_, fun g => ?_⟩⟩
      · have ed : ((dg : Nat) : Int) - 1 = ((dg - 1 : Nat) : Int) := by omega
        have s1 : chS st dg = st (dg - 1) := by unfold chS; rw [if_neg (by omega)]
        rw [s1] at nx1 nx0
        simp only [Int.toNat_natCast, Option.some.injEq, Prod.mk.injEq, true_and, and_true, exists_eq_left', ed, hst (dg - 1) (by omega)]
        exact ⟨by omega, by omega, by omega, ⟨by omega, by omega⟩, ⟨by omega, by omega⟩, by omega, by omega, by omega, nx1, nx0⟩
      · have s0 : dg = 0 := by omega
        have s1 : chS st dg = 0 := by rw [s0]; rfl
        rw [s1] at nx1 nx0
        exact ⟨⟨by omega, by omega⟩, ⟨by omega, by omega⟩, by omega, by omega, by omega, nx1, nx0⟩
  exact loop nr 0 G 0 (by omega) (fun _ _ => rfl) (fun j hj => absurd hj (by omega)) (fun _ _ => rfl) rfl
theorem cntF_congr {o o' u : Nat → Int} : ∀ {n : Nat}, (∀ r, r < n → o r = o' r) → cntF o u n = cntF o' u n
  | 0, _ => rfl
  | n + 1, h => by
    show cntF o u n + (if o n = u n then 0 else 1) = cntF o' u n + (if o' n = u n then 0 else 1)
    rw [cntF_congr (fun r hr => h r (by omega)), h n (by omega)]
variable {q : Int → Int → Mem → Prop} {a : Int}
set_option maxHeartbeats 2000000 in
theorem sim_take (h : Inv K H X M) (hq : ∀ r H', Inv K H' X M → q r r H') : Ci mX11_take (d + 20) [(2, (X : Int)), (0, a)] K H (fun r H1 => Ci mX12_take (d + 20) [(2, (M : Int)), (0, a)] K H1 (fun r' H2 => q r r' H2)) := by
  have hI := h
  obtain ⟨hM, hS, hR, hScr, hC, hRP, ⟨nb, nr, np, nz, nsp, ld, hH⟩, ho, hst⟩ := hI
  have rej : ∀ w : Int, ∀ H1, H1 = upA H X (up1 (H X) 0 w) → Ci mX12_refuse (d + 19) [(2, (M : Int)), (0, w)] K H1 (fun x H2 => q (-1) x H2) := fun w H1 e1 => sp_X12_refuse hR.k0 (fun H2 e2 => hq _ _ (h.stat e1 e2))
  refine eX11_take fun _ _ => bX11_take_0 ?_
  simp only [Int.toNat_natCast, Option.some.injEq, Prod.mk.injEq, true_and, and_true, exists_eq_left', hS.1]
  refine ⟨by omega, sp_X11_isSection ?_⟩
  by_cases ha : 0 ≤ a ∧ a ≤ 3
  · rw [decide_eq_true ha]
    obtain ⟨i, rfl⟩ : ∃ i : Nat, a = (i : Int) := ⟨a.toNat, by omega⟩
    have hi : i < 4 := by omega
    obtain ⟨C, P, T, z1, z2, z3⟩ := hH.che h hi
    have sI := C.2.2.2.1
    have nr6 := sI.2.2.2.2.2.2.2.1.1
    refine ⟨fun _ => ?_, fun g => absurd g (by decide)⟩
    simp only [Int.toNat_natCast, Option.some.injEq, Prod.mk.injEq, true_and, and_true, exists_eq_left', hC.1.2.1, hS.2.2.2.1, hC.1.2.2.2.2.2.2, hS.k73, hC.2.2.1 i hi, hC.1.2.2.1, hC.1.2.2.2.1]
    refine ⟨by omega, by omega, by omega, by omega, sp_X1_findBest (d := d + 3) C P T z1 z2 z3 (hH.1 i hi).2 ?_ ?_⟩
    · intro G1 F g14 g15 no
      refine ⟨fun _ => sp_X11_refuse hS.1 (fun H2 e2 => ?_), fun g => absurd rfl g⟩
      have c2 : ∀ x, M ≤ x → H2 x = H x := fun x hx => by rw [e2, upA_ne (by omega), F.1 x (by omega) (by omega) (by omega)]
      refine eX12_take fun _ _ => bX12_take_0 (sp_X12_isSection ?_)
      rw [decide_eq_true ha]
      refine ⟨fun _ => ?_, fun g => absurd g (by decide)⟩
      simp only [Int.toNat_natCast, Option.some.injEq, Prod.mk.injEq, true_and, and_true, exists_eq_left', hR.k0]
      refine ⟨by omega, sp_X12_choose (d := d + 14) (hH.cf h hi c2) ?_ ?_⟩
      · intro G3 C3 _
        refine ⟨fun g => absurd rfl g, fun _ => sp_X12_refuse hR.k0 (fun H4 e4 => hq _ _ ?_)⟩
        have f4 : FC M [0] G3 H4 := by rw [e4]; exact FC.up0 rfl
        have o4 : FO [0] (G3 M) (H4 M) := by rw [e4, upA_same]; exact FO.up rfl
        exact h.fb0 hH hi F (Or.inr ⟨g14, Or.inl ⟨g15, no⟩⟩) e2 (C3.1.same (f4.wide rfl)) ((C3.2.wide (l' := [0, 19, 20, 21, 22, 30]) rfl).same (o4.wide rfl)) rfl rfl (by rw [e4, upA_same, up1_same])
      · intro G3 w C3 ib
        exact absurd ib.2.1 (no w ib.1)
    · intro G1 w F g14 g15 ib g16 pk
      have gc : ∀ x, x < X + 73 ∨ X + 82 < x → x ≠ X + 83 + 10 * i → x ≠ X + 83 + 10 * i + 9 → G1 x = H x := F.1
      have e18 := gc (X + 18) (by omega) (by omega) (by omega)
      have e19 := gc (X + 19) (by omega) (by omega) (by omega)
      have e5 := gc (X + 83 + 10 * i + 5) (by omega) (by omega) (by omega)
      have el : ∀ r, dgt (nz + 1) (nr i) w r < nz + 1 := fun r => dgt_lt (by omega)
      refine ⟨fun g => absurd g (by decide), fun _ => sp_X11_carryOut (nz := nz) (nr := nr i) (d := d + 18) hS.1 (by rw [gc X (by omega) (by omega) (by omega)]; exact hC.1.2.2.2.1) (by omega) sI.1 (by rw [F.2.2.2 7 rfl]; exact sI.2.2.2.1) nr6 (by rw [F.2.2.2 9 rfl]; exact sI.2.1.2.2.2.2.1) (by rw [F.2.2.2 17 rfl]; exact sI.2.1.2.2.2.2.2.2.2.2) (T.sr e18) (by rw [e18]; exact z1) z2 pk el ?_⟩
      intro G2 cG u2
      rw [e5, e19]
      rw [e19] at u2
      refine sp_X11_give hS.1 (fun H2 e2 => ?_)
      have k2 : ∀ x, x ≠ X → x ≠ X + 83 + 10 * i + 5 → H2 x = G1 x := fun x a b => by rw [e2, upA_ne a, cG x b]
      have c2 : ∀ x, M ≤ x → H2 x = H x := fun x hx => by rw [k2 x (by omega) (by omega), gc x (by omega) (by omega) (by omega)]
      refine eX12_take fun _ _ => bX12_take_0 (sp_X12_isSection ?_)
      rw [decide_eq_true ha]
      refine ⟨fun _ => ?_, fun g => absurd g (by decide)⟩
      simp only [Int.toNat_natCast, Option.some.injEq, Prod.mk.injEq, true_and, and_true, exists_eq_left', hR.k0]
      have CF := hH.cf h hi c2
      refine ⟨by omega, sp_X12_choose (d := d + 14) CF ?_ ?_⟩
      · intro G3 C3 no
        exact absurd ib.2.1 (no w ib.1)
      · intro G3 w' C3 ib' e30 ch
        have ew : w' = w := ib'.unique ib
        rw [ew] at ch
        refine ⟨fun _ H4 e4 => ?_, fun g => absurd g (by decide)⟩
        have v4 : H4 M = up1 (G3 M) 0 0 := by rw [e4, upA_same]
        have k4 : ∀ x, x ≠ M → H4 x = G3 x := fun x hx => by rw [e4, upA_ne hx]
        have o4 : FO [0] (G3 M) (H4 M) := by rw [v4]; exact FO.up rfl
        clear e4
        have C3' := CF.keep C3
        have e13 : H4 (M + 13) = H (M + 13) := by rw [k4 _ (by omega), C3.1.at 13 rfl]; exact c2 _ (by omega)
        have sS := (hH.1 i hi).1.2.2
        refine ref_take (nz := nz) (st := H (X + 19)) (e := dgt (nz + 1) (nr i) w) hR (C3'.2.1.cong [0] rfl o4) hi (by rw [k4 _ (by omega)]; exact C3'.2.2.2.1.2.2.2.1) nr6 z2 (fun k hk => by rw [k4 _ (by omega)]; exact (C3'.2.2.2.2.2.2.2.2 k hk).1.1) (fun r hr => by rw [k4 _ (by omega)]; exact ch r hr) el ?_
        intro G5 c5 u5 v5
        rw [e13] at v5
        rw [e13, cntF_congr (o' := H (X + 83 + 10 * i + 5)) (fun r hr => sS r hr)]
        have lo5 : ∀ x, x < M → G5 x = H2 x := fun x hx => by rw [c5 x (by omega), k4 x (by omega)]; exact C3.1.lt hx
        have s9 : G5 (X + 83 + 10 * i + 9) = G1 (X + 83 + 10 * i + 9) := by rw [lo5 _ (by omega), k2 _ (by omega) (by omega)]
        have s0 : G5 (X + 83 + 10 * i) = G1 (X + 83 + 10 * i) := by rw [lo5 _ (by omega), k2 _ (by omega) (by omega)]
        have s5 : G5 (X + 83 + 10 * i + 5) = G2 (X + 83 + 10 * i + 5) := by rw [lo5 _ (by omega), e2, upA_ne (by omega)]
        refine hq _ _ (h.fb hH hi (fun x a b c e f g => ?_) ?_ ?_ ?_ ?_ ?_ (fun x hx hj => ?_) ?_ v5 (fun r hr => ?_) ?_ ?_)
        · rw [lo5 x a, k2 x b f, gc x (by omega) e g]
        · rw [lo5 X (by omega), e2, upA_same, cG X (by omega), gc X (by omega) (by omega) (by omega)]; exact FO.up rfl
        · rw [lo5 _ (by omega), k2 _ (by omega) (by omega)]; exact F.2.1
        · rw [lo5 _ (by omega), k2 _ (by omega) (by omega)]; exact F.2.2.1
        · rw [s0]; exact F.2.2.2
        · intro r hr
          rw [s5, u2 r hr]
          have := chS_bd (f := H (X + 19)) (u := 200) (nz := nz) (by decide) (fun k hk => (z3 k hk).1) (el r)
          omega
        · have n13 := hj 13 rfl
          have n14 := hj 14 rfl
          have n19 := hj 19 rfl
          rw [c5 x n13, k4 x (by omega), C3.1 x (fun j hj' => by simp at hj'; omega)]
          exact c2 x (by omega)
        · have f := (C3.2.wide (l' := [0, 19, 20, 21, 22, 30]) rfl).same (o4.wide rfl)
          rw [c2 M (by omega)] at f
          rw [c5 M (by omega)]
          exact f.wide rfl
        · rw [u5 r hr, s5, u2 r hr]
        · rw [s0, s9]; exact Or.inr ⟨g14, Or.inr ⟨g15, w, ib, g16, pk⟩⟩
        · rw [lo5 X (by omega), e2, upA_same, up1_same, c5 M (by omega), v4, up1_same]
  · rw [decide_eq_false ha]
    refine ⟨fun g => absurd rfl g, fun _ => sp_X11_refuse hS.1 (fun H1 e1 => ?_)⟩
    refine eX12_take fun _ _ => bX12_take_0 (sp_X12_isSection ?_)
    rw [decide_eq_false ha]
    refine ⟨fun g => absurd rfl g, fun _ => ?_⟩
    simp only [Int.toNat_natCast, Option.some.injEq, Prod.mk.injEq, true_and, and_true, exists_eq_left', hR.k0]
    exact ⟨by omega, rej 1 H1 e1⟩
end Tk
