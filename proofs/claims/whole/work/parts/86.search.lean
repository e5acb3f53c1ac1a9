/-! RodBeam$Chooser: attempt, choose: the search -/
def cU (c : Nat → Nat) (a dg : Nat) : Nat → Nat := fun k => if k = a then dg else c k
theorem cU_at (c : Nat → Nat) (a dg : Nat) : cU c a dg a = dg := by unfold cU; rw [if_pos rfl]
theorem cU_ne {c : Nat → Nat} {a dg k : Nat} (h : k ≠ a) : cU c a dg k = c k := by unfold cU; rw [if_neg h]
section Att
variable {d : Nat} {K : Shp} {H G : Mem} {X s nb nr np nz ka w : Nat}
theorem SrI.cut {c : Nat → Nat} {a dg : Nat} (h : SrI H G X s nb nr np nz ka (cU c a dg) (a + 1) (a + 1)) : SrI H G X s nb nr np nz ka c a (a + 1) :=
  ⟨h.1, h.2.1, fun k hk => by rw [h.2.2.1 k (by omega), cU_ne (by omega)], h.2.2.2.1, fun k hk => by rw [h.2.2.2.2 k (by omega), cU_ne (by omega)]⟩
theorem idle_best {a : Nat} (E : SE K H X s nb nr np nz ka w) (ha : a < nr) (h : idleP (H (X + 19)) (H (X + 20)) nz (codeD (dgt (nz + 1) nr w a))) : False := by
  obtain ⟨C, ⟨T, z1, z2, z3⟩, ⟨k1, k2, k3⟩, hm, best⟩ := E
  have lt : dgt (nz + 1) nr w a < nz + 1 := dgt_lt (by omega)
  obtain ⟨o, o1, o2, o3⟩ := h
  rw [codeD_sz lt] at o2 o3
  have zo := z3 o o1
  obtain ⟨dd, hd⟩ : ∃ dd, dgt (nz + 1) nr w a = dd := ⟨_, rfl⟩
  rw [hd] at o2 o3 lt
  cases dd with
  | zero =>
    have : chS (H (X + 20)) 0 = 0 := rfl
    omega
  | succ dd =>
    have e1 : chS (H (X + 20)) (dd + 1) = H (X + 20) dd := rfl
    have e2 : chS (H (X + 19)) (dd + 1) = H (X + 19) dd := rfl
    have e3 : codeD (dd + 1) = (dd : Int) := rfl
    rw [e1, e3] at o2
    rw [e2] at o3
    exact best_idle (fun us us' hle hs => safe_mono C.2.2.2.1 hle hs) (fun k hk => (z3 k hk).1) best ha hd o1 (by omega) o3
set_option maxHeartbeats 2000000 in
theorem attempt_at {q : Mem → Prop} {a dg : Nat} {c : Nat → Nat} {price num : Int} (E : SE K H X s nb nr np nz ka w) (ha : a < nr) (IH : ChSpec K H X s nb nr np nz ka w (d + 3) (a + 1)) (I : SrI H G X s nb nr np nz ka c a (a + 1)) (hc : ∀ k, k < a → c k < nz + 1) (hp : price = prD (H (X + 20)) c a)
    (sf : safeW (bearOf H s nb nr) np (H (X + 16)) (H (X + 17)) (mixU (H (X + 19)) (maxN (H (X + 19)) nz) c a)) (hd : dg < nz + 1) (hn : num = codeD dg)
    (hq : ∀ G', SrI H G' X s nb nr np nz ka c a (a + 1) → PostB G G' s nr (dgt (nz + 1) nr w) (prD (H (X + 20)) (dgt (nz + 1) nr w) nr) (cU c a dg) (a + 1) → q G') :
    Cv mX1_attempt (d + 4) [(2, ((X + 73 : Nat) : Int)), (2, (s : Int)), (2, ((X + 18 : Nat) : Int)), (0, (a : Int)), (0, price), (0, num)] K G q := by
  have E0 := E
  obtain ⟨C, ⟨T, z1, z2, z3⟩, ⟨k1, k2, k3⟩, hm, best⟩ := E
  have C' := C.sr I.1
  obtain ⟨hS1, hC, hW, sI, hs⟩ := id C'
  have sI0 := C.2.2.2.1
  have nr6 := sI0.2.2.2.2.2.2.2.1.1
  have e18 : G (X + 18) = H (X + 18) := I.1.1 _ (by omega) (by omega) (by omega)
  have e19 : G (X + 18 + 1) = H (X + 19) := I.1.1 _ (by omega) (by omega) (by omega)
  have e20 : G (X + 18 + 2) = H (X + 20) := I.1.1 _ (by omega) (by omega) (by omega)
  have TG : TriK 6 4 K G (X + 18) := T.sr e18
  have zG : G (X + 18) 0 = (nz : Int) := by rw [e18]; exact z1
  have mN := maxN_le (f := H (X + 19)) (u := 200) (by decide) (n := nz) (fun k hk => (z3 k hk).1.2)
  have stb : ∀ g, g < nz + 1 → 0 ≤ chS (H (X + 19)) g ∧ chS (H (X + 19)) g ≤ 200 ∧ chS (H (X + 19)) g ≤ maxN (H (X + 19)) nz := fun g hg => chS_bd (f := H (X + 19)) (u := 200) (by decide) (fun k hk => (z3 k hk).1) hg
  have prb := fun k hk => (z3 k hk).2
  have hcU : ∀ k, k < a + 1 → cU c a dg k < nz + 1 := fun k hk => by
    by_cases x : k = a
    · rw [x, cU_at]; exact hd
    · rw [cU_ne x]; exact hc k (by omega)
  have el : ∀ k, dgt (nz + 1) nr w k < nz + 1 := fun k => dgt_lt (by omega)
  have tg : prD (H (X + 20)) (cU c a dg) (a + 1) = price + chS (H (X + 20)) dg := by
    show prD (H (X + 20)) (cU c a dg) a + chS (H (X + 20)) (cU c a dg a) = _
    rw [prD_congr (e := c) (fun k hk => cU_ne (by omega)), cU_at, hp]
  have tb := prD_bd prb hcU
  have tle := prD_le prb (m := a + 1) (n := nr) (c := dgt (nz + 1) nr w) (by omega) (fun k _ => el k)
  have teq : eqP (cU c a dg) (dgt (nz + 1) nr w) (a + 1) → price + chS (H (X + 20)) dg ≤ prD (H (X + 20)) (dgt (nz + 1) nr w) nr := fun eq => by
    have := prD_congr (pr := H (X + 20)) eq
    omega
  refine eX1_attempt fun _ _ _ _ => bX1_attempt_0 ?_
  simp only [Int.toNat_natCast, Option.some.injEq, Prod.mk.injEq, true_and, and_true, exists_eq_left', TG.1]
  refine ⟨by omega, (sp_X6_priceOf TG zG z2).mono ?_⟩
  rintro x H' ⟨ex, eH⟩
  rw [hn, codeD_sz hd, e20] at ex
  rw [eH, ex]
  clear eH ex
  simp only [Int.toNat_natCast, Option.some.injEq, Prod.mk.injEq, true_and, and_true, exists_eq_left', sI.1.1]
  refine ⟨⟨by omega, by omega⟩, by omega, fun g => hq _ I ⟨fun x => x, fun bf eq => ?_, fun bf _ => bf⟩, fun g => sp_X6_isIdle TG zG z2 (fun idl => ?_) (fun _ => ?_)⟩
  · have := teq eq
    unfold BefB at bf
    omega
  · refine ⟨fun g => absurd g (by decide), fun _ => hq _ I ⟨fun x => x, fun bf eq => ?_, fun bf _ => bf⟩⟩
    have ea : dg = dgt (nz + 1) nr w a := by have := eq a (by omega); rw [cU_at] at this; exact this
    rw [hn, ea, e19, e20] at idl
    exact absurd idl (fun x => idle_best E0 ha x)
  · refine ⟨fun _ => ?_, fun g => absurd rfl g⟩
    simp only [Int.toNat_natCast, Option.some.injEq, Prod.mk.injEq, true_and, and_true, exists_eq_left', hS1.k73, hC.p7, hS1.k82]
    refine ⟨by omega, by omega, by omega, by omega, fun H1 e1 => ?_⟩
    have c1 : ∀ x, x ≠ X + 82 → H1 x = G x := fun x hx => by rw [e1, upA_ne hx]
    have v1 : H1 (X + 82) = up1 (G (X + 82)) a num := by rw [e1, upA_same]
    clear e1
    refine (sp_X6_strengthOf (T.sr ((c1 _ (by omega)).trans e18)) (by rw [c1 _ (by omega)]; exact zG) z2).mono ?_
    rintro y H' ⟨ey, eH⟩
    rw [hn, codeD_sz hd, c1 _ (by omega), e19] at ey
    rw [eH, ey]
    clear eH ey
    simp only [Int.toNat_natCast, Option.some.injEq, Prod.mk.injEq, true_and, and_true, exists_eq_left', c1 (X + 73) (by omega), hC.p6, hS1.k81, c1 (X + 81) (by omega)]
    refine ⟨by omega, by omega, fun H2 e2 => ?_⟩
    have c2 : ∀ x, x ≠ X + 81 → x ≠ X + 82 → H2 x = G x := fun x hx hy => by rw [e2, upA_ne hx, c1 x hy]
    have v2 : H2 (X + 81) = up1 (G (X + 81)) a (chS (H (X + 19)) dg) := by rw [e2, upA_same]
    have w2 : H2 (X + 82) = up1 (G (X + 82)) a num := by rw [e2, upA_ne (by omega)]; exact v1
    clear e2 v1 c1
    have x81 : H2 (X + 81) a = chS (H (X + 19)) dg := by rw [v2, up1_same]
    have x5 : G (X + 73) 5 = maxN (H (X + 19)) nz := by rw [I.1.1 _ (by omega) (by omega) (by omega)]; exact k3
    have F2 : SrF X s H H2 := ⟨fun x a1 b1 c1 => (c2 x (by omega) (by omega)).trans (I.1.1 x a1 b1 c1), by rw [c2 _ (by omega) (by omega)]; exact I.1.2.1, by rw [c2 s (by omega) (by omega)]; exact I.1.2.2⟩
    have I2 : SrI H H2 X s nb nr np nz ka (cU c a dg) (a + 1) (a + 1) := by
      refine ⟨F2, ?_, fun k hk => ?_, fun k h1 h2 => ?_, fun k hk => ?_⟩
      · rw [c2 (X + 78) (by omega) (by omega), c2 (X + 79) (by omega) (by omega), c2 (X + 80) (by omega) (by omega)]; exact I.2.1
      · by_cases x : k = a
        · rw [x, x81, cU_at]
        · rw [v2, up1_ne x, cU_ne x]; exact I.2.2.1 k (by omega)
      · rw [v2, up1_ne (by omega)]; exact I.2.2.2.1 k h1 h2
      · by_cases x : k = a
        · rw [x, w2, up1_same, cU_at]; exact hn
        · rw [w2, up1_ne x, cU_ne x]; exact I.2.2.2.2 k (by omega)
    have tr2 : ∀ k, k < nr → H2 (X + 81) k = mixU (H (X + 19)) (maxN (H (X + 19)) nz) (cU c a dg) (a + 1) k := fun k hk => by
      unfold mixU
      by_cases x : k < a + 1
      · rw [if_pos x]; exact I2.2.2.1 k x
      · rw [if_neg x]; exact I2.2.2.2.1 k (by omega) (by omega)
    have mxb : ∀ k, 0 ≤ mixU (H (X + 19)) (maxN (H (X + 19)) nz) (cU c a dg) (a + 1) k ∧ mixU (H (X + 19)) (maxN (H (X + 19)) nz) (cU c a dg) (a + 1) k ≤ 200 := fun k => by
      unfold mixU
      split
      · next x => have := stb _ (hcU k x); omega
      · omega
    have go : ∀ G3, SrI H G3 X s nb nr np nz ka (cU c a dg) (a + 1) (a + 1) → G3 s = G s → G3 (s + 9) = G (s + 9) → safeW (bearOf H s nb nr) np (H (X + 16)) (H (X + 17)) (mixU (H (X + 19)) (maxN (H (X + 19)) nz) (cU c a dg) (a + 1)) → Cv mX1_choose (d + 3) [(2, ((X + 73 : Nat) : Int)), (2, (s : Int)), (2, ((X + 18 : Nat) : Int)), (0, ((a + 1 : Nat) : Int)), (0, price + chS (H (X + 20)) dg)] K G3 (fun H33 => q H33) := by
      intro G3 I3 es e9 sf3
      refine IH (cU c a dg) G3 _ _ I3 hcU tg.symm (by rw [es]; exact g) sf3 ?_
      intro G4 I4 P4
      exact hq G4 I4.cut ⟨fun dn => P4.1 (dn.keep es e9), fun bf eq => P4.2.1 (bf.keep es) eq, fun bf lt => P4.2.2 (bf.keep es) lt⟩
    have es2 := c2 s (by omega) (by omega)
    have e92 := c2 (s + 9) (by omega) (by omega)
    rw [show (a : Int) + 1 = ((a + 1 : Nat) : Int) by omega]
    simp only [Int.toNat_natCast, Option.some.injEq, Prod.mk.injEq, true_and, and_true, exists_eq_left', c2 (X + 73) (by omega) (by omega), hC.p6, hS1.k81, x81, x5]
    refine ⟨by omega, by omega, fun eqs => ⟨⟨by omega, by omega⟩, go H2 I2 es2 e92 (safe_mono sI0 (fun k hk => ?_) sf)⟩, fun _ => sp_X1_bearsAll (d := d) (np := np) (C.sr F2) (fun k hk => by rw [tr2 k hk]; exact mxb k) (by rw [c2 (X + 73) (by omega) (by omega), I.1.1 _ (by omega) (by omega) (by omega)]; exact k1) k2 hm I2.2.1 (fun G3 f3 w3 a3 al => ?_) (fun G3 f3 w3 a3 al => ?_)⟩
    · have b := mxb k
      have e : mixU (H (X + 19)) (maxN (H (X + 19)) nz) (cU c a dg) (a + 1) k = mixU (H (X + 19)) (maxN (H (X + 19)) nz) c a k := by
        unfold mixU
        by_cases x : k < a
        · rw [if_pos (by omega), if_pos x, cU_ne (by omega)]
        · by_cases y : k = a
          · rw [if_pos (by omega), if_neg x, y, cU_at]; exact eqs
          · rw [if_neg (by omega), if_neg x]
      rw [← e]; omega
    · have bb : ∀ us hi n m, bSd H2 s nb nr us hi n m = bSd H s nb nr us hi n m := fun us hi n m => bSd_fo (F2.2.2.wide rfl) (fun j x y => F2.1 _ (by omega) (by omega) (by omega))
      have sf3 : safeW (bearOf H s nb nr) np (H (X + 16)) (H (X + 17)) (H2 (X + 81)) := (ask_safe sI0 (fun k hk => by rw [tr2 k hk]; exact mxb k) I2.2.1).mp (fun j hj => by rw [← bb]; exact al j hj)
      have I3 : SrI H G3 X s nb nr np nz ka (cU c a dg) (a + 1) (a + 1) := by
        refine ⟨⟨fun x a1 b1 c1 => (f3 x (by omega)).trans (F2.1 x a1 b1 c1), w3, by rw [f3 s (by omega)]; exact F2.2.2⟩, a3, ?_, ?_, ?_⟩
        · rw [f3 (X + 81) (by omega)]; exact I2.2.2.1
        · rw [f3 (X + 81) (by omega)]; exact I2.2.2.2.1
        · rw [f3 (X + 82) (by omega)]; exact I2.2.2.2.2
      exact ⟨fun g => absurd g (by decide), fun _ => ⟨⟨by omega, by omega⟩, go G3 I3 (by rw [f3 s (by omega)]; exact es2) (by rw [f3 (s + 9) (by omega)]; exact e92) (safe_mono sI0 (fun k hk => by rw [tr2 k hk]; have := mxb k; omega) sf3)⟩⟩
    · have bb : ∀ us hi n m, bSd H2 s nb nr us hi n m = bSd H s nb nr us hi n m := fun us hi n m => bSd_fo (F2.2.2.wide rfl) (fun j x y => F2.1 _ (by omega) (by omega) (by omega))
      have I3 : SrI H G3 X s nb nr np nz ka (cU c a dg) (a + 1) (a + 1) := by
        refine ⟨⟨fun x a1 b1 c1 => (f3 x (by omega)).trans (F2.1 x a1 b1 c1), w3, by rw [f3 s (by omega)]; exact F2.2.2⟩, a3, ?_, ?_, ?_⟩
        · rw [f3 (X + 81) (by omega)]; exact I2.2.2.1
        · rw [f3 (X + 81) (by omega)]; exact I2.2.2.2.1
        · rw [f3 (X + 82) (by omega)]; exact I2.2.2.2.2
      have es3 : G3 s = G s := by rw [f3 s (by omega)]; exact es2
      have e93 : G3 (s + 9) = G (s + 9) := by rw [f3 (s + 9) (by omega)]; exact e92
      refine ⟨fun _ => hq G3 I3.cut ⟨fun dn => dn.keep es3 e93, fun bf eq => ?_, fun bf _ => bf.keep es3⟩, fun g => absurd rfl g⟩
      refine absurd (fun j hj => ?_) al
      have sfu : safeW (bearOf H s nb nr) np (H (X + 16)) (H (X + 17)) (H2 (X + 81)) := safe_mono sI0 (fun k hk => by
        rw [tr2 k hk]
        have b := mxb k
        have u := stb _ (el k)
        unfold usW
        rw [if_pos hk]
        refine ⟨?_, u.1, b.2⟩
        unfold mixU
        by_cases x : k < a + 1
        · rw [if_pos x, eq k x]; exact Int.le_refl _
        · rw [if_neg x]; exact u.2.2) best.2.1
      rw [bb]
      exact (ask_safe sI0 (fun k hk => by rw [tr2 k hk]; exact mxb k) I2.2.1).mpr sfu j hj
end Att
