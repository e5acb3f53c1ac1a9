/-! side by side: times, factor, weakest, whole -/
section S9b
variable {d : Nat} {K : Shp} {H : Mem} {X M : Nat} {q : Int → Int → Mem → Prop} {a b : Int}
/-- a number of the beam was told by both -/
theorem Inv.outB {H1 H2 H3 : Mem} {L : List Int} {lf lo : List Nat} (h : Inv K H X M) (f : FrL X H H1) (r1 : RatK K H1 (X + 24)) (r2 : RatK K H1 (X + 35)) (w : WkP (H1 (X + 46)) (X + 46))
    (g1 : ∀ c, c ≠ X → c ≠ X + 1 → c ≠ X + 2 → H2 c = H1 c) (gX : H2 X = up1 (H1 X) 0 0) (g2 : FO [0] (H1 (X + 1)) (H2 (X + 1))) (g3 : H2 (X + 1) 0 = (L.length : Int)) (g4 : L.length ≤ 110) (g5 : At (H2 (X + 2)) 0 L) (f1 : FC M lf H2 H3) (f2 : FO lo (H2 M) (H3 M)) (c1 : lf.all (fun k => [0, 1, 2, 3, 4, 5, 14, 19, 26].contains k) = true) (c2 : lo.all (fun k => [0, 2, 6, 7, 9, 19, 20, 21, 22, 30, 38, 39, 40, 41, 42, 43, 44, 45, 46, 47, 48, 50].contains k) = true)
    (o3 : H3 M 9 = (L.length : Int)) (o4 : At (H3 (M + 5)) 0 L) (hst : H3 M 0 = 0) : Inv K H3 X M := by
  have hM := h.1
  refine h.askOut (H1 := H2) (L := L) (fun x x0 x1 x2 x3 x4 => by rw [g1 x x0 (by omega) (by omega), f.1 x (by omega)]) (by rw [gX, f.1 X (by omega)]; exact FO.up rfl) (by rw [f.1 (X + 1) (by omega)] at g2; exact g2) (fun k hk => ?_) ((h.2.2.2.1.fr f r1 r2 w).cells (fun x hx => g1 x (by omega) (by omega) (by omega))) (f1.wide c1) (f2.wide c2) g4 g3 g5 o3 o4 (by rw [gX, up1_same, hst])
  rw [g1 _ (by omega) (by omega) (by omega)]
  exact f.2 k (fun e => by rw [e] at hk; cases hk) (fun e => by rw [e] at hk; cases hk)
theorem sp_X0_reckonLeast {c : Nat} {nb nr sx ld : Nat → Nat} {qi : Int → Mem → Prop} (h : BmI K H X c nb nr sx) (sp : ∀ j, j < c → SpB H X j (ld j)) (r1 : RatK K H (X + 24)) (r2 : RatK K H (X + 35)) (hq : ∀ H' v, (v = 0 ∨ v = 1) → LsI K H H' X c nb nr sx ld c 0 v → qi v H') : Ci mX0_reckonLeast (d + 5) [(2, ((X + 21 : Nat) : Int)), (2, ((X + 14 : Nat) : Int))] K H qi := by
  refine eX0_reckonLeast fun _ => bX0_reckonLeast_0 ?_
  refine ls_out (d := d) h sp hq _ 0 0 H rfl (by omega) ⟨FrL.rf, r1, r2, h.2.2.1, Or.inl ⟨rfl, fun i k hv => ?_⟩⟩
  unfold Vis at hv
  omega
theorem sp_X0_reckonLeast0 {qi : Int → Mem → Prop} (hS : InvS K X) (h0 : H (X + 21) 0 = 0) (hq : qi 0 H) : Ci mX0_reckonLeast (d + 5) [(2, ((X + 21 : Nat) : Int)), (2, ((X + 14 : Nat) : Int))] K H qi := by
  refine eX0_reckonLeast fun _ => bX0_reckonLeast_0 (bX0_reckonLeast_4 ?_)
  simp only [Int.toNat_natCast, Option.some.injEq, Prod.mk.injEq, true_and, and_true, exists_eq_left', hS.2.2.2.2.2.2.1, h0]
  exact ⟨by omega, fun _ => ⟨by simp, hq⟩, fun g => by omega⟩
set_option maxHeartbeats 2000000 in
theorem sim_times (h : Inv K H X M) (hq : ∀ r H', Inv K H' X M → q r r H') : Ci mX11_times (d + 12) [(2, (X : Int)), (0, a), (0, b)] K H (fun r H1 => Ci mX12_times (d + 12) [(2, (M : Int)), (0, a), (0, b)] K H1 (fun r' H2 => q r r' H2)) := by
  have hI := h
  obtain ⟨hM, hS, hR, hScr, hC, hRP, ⟨nb, nr, np, nz, nsp, ld, hH⟩, ho, hst⟩ := hI
  have rej : ∀ w : Int, ∀ H1, H1 = upA H X (up1 (H X) 0 w) → Ci mX12_refuse (d + 11) [(2, (M : Int)), (0, w)] K H1 (fun x H2 => q (-1) x H2) := fun w H1 e1 => sp_X12_refuse hR.k0 (fun H2 e2 => hq _ _ (h.stat e1 e2))
  obtain ⟨b1, b2, b3, b4, b5⟩ := id hH.2.2.2
  refine eX11_times fun _ _ _ => bX11_times_0 ?_
  simp only [Int.toNat_natCast, Option.some.injEq, Prod.mk.injEq, true_and, and_true, exists_eq_left', hS.1]
  refine ⟨by omega, sp_X11_isSpan hS.1 hC.1.2.2.2.2.1 hS.2.2.2.2.2.2.1 b1 b2 ?_⟩
  by_cases ha : 0 ≤ a ∧ a < (nsp : Int)
  · rw [decide_eq_true ha]
    obtain ⟨i, rfl⟩ : ∃ i : Nat, a = (i : Int) := ⟨a.toNat, by omega⟩
    have hi : i < nsp := by omega
    have hi5 : i < 5 := by omega
    obtain ⟨bm, E, sp⟩ := hH.bm h (by omega)
    have s5 := (b4 i hi).2.2.2.2.1
    have s6 := (b4 i hi).2.2.2.2.2.1
    have s7 := (b4 i hi).2.2.2.2.2.2.1
    have t0 := (hS.2.2.2.2.2.2.2.2.2.2.2.1 i hi5).1
    clear b4 b5
    refine ⟨fun g => absurd g (by decide), fun _ => ?_⟩
    simp only [Int.toNat_natCast, Option.some.injEq, Prod.mk.injEq, true_and, and_true, exists_eq_left', hC.1.2.2.2.2.1, hC.1.2.1, hS.2.2.2.2.2.2.1, hC.2.2.2.2.2.1.1, hS.2.2.2.2.2.2.2.1, hC.2.2.2.2.2.2.1 i hi5, t0, s6]
    refine ⟨by omega, by omega, by omega, by omega, by omega, ⟨by omega, by omega⟩, sp_X11_isFromTo ?_⟩
    by_cases hb : 0 ≤ b ∧ b ≤ (ld i : Int) - 1
    · rw [decide_eq_true hb]
      obtain ⟨l, rfl⟩ : ∃ l : Nat, b = (l : Int) := ⟨b.toNat, by omega⟩
      have hl : l < ld i := by omega
      have tp := tV_nn E hi hl
      simp only [Int.toNat_natCast, Option.some.injEq, Prod.mk.injEq, true_and, and_true, exists_eq_left', hC.1.2.2.2.2.1, hC.1.2.1, hS.2.2.2.2.2.2.1]
      refine ⟨fun _ => ⟨by omega, reckon_at (d := d + 7) bm sp FrL.rf hScr.2.1 hScr.2.2.2.1 hi hl ?_⟩, fun g => absurd g (by decide)⟩
      intro H1 p r o f k1 w1 dp dr rd e lp lr
      have C1 : ClsP H1 X := hC.keep f.kept
      have k2 : RatK K H1 (X + 35) := hScr.2.2.1.cells (fun j hj => o _ (by omega) (by omega))
      simp only [Int.toNat_natCast, Option.some.injEq, Prod.mk.injEq, true_and, and_true, exists_eq_left', C1.1.2.2.2.2.1, hS.2.2.2.2.2.2.1, C1.2.2.2.2.2.1.2.2.1]
      refine ⟨by omega, sp_X11_giveRatio (d := d + 8) (s := X + 24) hS C1.1 C1.2.1.1 k1 (by omega) dp dr lp lr ?_⟩
      intro H2 g1 gX g2 g3 g4 g5
      have c2 : ∀ x, x = X + 23 ∨ X + 54 ≤ x → H2 x = H x := fun x hx => by rw [g1 x (by omega) (by omega) (by omega), f.1 x (by omega)]
      have cm : ∀ x, M ≤ x → H2 x = H x := fun x hx => c2 x (by omega)
      have E2 := E.cells (H' := H2) hM (fun x hx => c2 x (by omega))
      rw [← tV_cells (H := H) (H' := H2) c2] at e tp
      clear c2
      refine eX12_times fun _ _ _ => bX12_times_0 ?_
      simp only [Int.toNat_natCast, Option.some.injEq, Prod.mk.injEq, true_and, and_true, exists_eq_left', hR.k0]
      refine ⟨by omega, sp_X12_isSpan hR.k0 (n := nsp) (by rw [cm M (by omega)]; exact b3) ?_⟩
      rw [decide_eq_true ha]
      simp only [Int.toNat_natCast, Option.some.injEq, Prod.mk.injEq, true_and, and_true, exists_eq_left', cm M (by omega), hRP.p33, hR.k22, cm (M + 22) (by omega), s5]
      refine ⟨fun g => absurd g (by decide), fun _ => ⟨fun g => by omega, fun _ => ⟨by omega, by omega, by omega, fun _ H3 e3 => ?_, fun g => by omega⟩⟩⟩
      have v3 : H3 M = up1 (H2 M) 2 0 := by rw [e3, upA_same, cm M (by omega)]
      have o3 : FO [2] (H2 M) (H3 M) := by rw [v3]; exact FO.up rfl
      have f3 : FC M [0] H2 H3 := by rw [e3]; exact FC.up0 rfl
      have R3 : RI2 M H2 H3 := RI2.rf.tr f3 o3 rfl rfl
      have E3 := E2.keep hM R3
      rw [← tV_ref E2 hM R3.1 hi] at e tp
      refine sp_X12_timesOf (d := d + 4) E3 RI.rf ⟨0, by omega, by rw [v3, up1_same]; rfl⟩ hi hl ?_
      intro G4 r4 U
      obtain ⟨a', b', ea, eb, L4⟩ := U
      rw [ea, eb]
      refine lg_tells (d := d + 7) hR (r4.p E3.2.1) L4 (i := 1) (j := 0) rfl rfl (by decide) (by decide) (by decide) tp.2 rd e g4 ?_
      intro G5 z1 z2 z3 z4 z5
      exact hq _ _ (h.outB f k1 k2 w1 g1 gX g2 g3 g4 g5 (((f3.wide (l' := [0, 1, 2, 3, 4, 5, 14]) rfl).same (r4.1.wide rfl)).same (z1.wide rfl)) (((o3.wide (l' := [0, 6, 7, 9] ++ rfL) rfl).same (r4.2.wide rfl)).same (z2.wide rfl)) rfl rfl z4 z5 z3)
    · rw [decide_eq_false hb]
      refine ⟨fun g => absurd rfl g, fun _ => sp_X11_refuse hS.1 (fun H1 e1 => ?_)⟩
      have rr := rej 1 H1 e1
      have c1 : ∀ x, x ≠ X → H1 x = H x := fun x hx => by rw [e1, upA_ne hx]
      refine eX12_times fun _ _ _ => bX12_times_0 ?_
      simp only [Int.toNat_natCast, Option.some.injEq, Prod.mk.injEq, true_and, and_true, exists_eq_left', hR.k0]
      refine ⟨by omega, sp_X12_isSpan hR.k0 (n := nsp) (by rw [c1 M (by omega)]; exact b3) ?_⟩
      rw [decide_eq_true ha]
      simp only [Int.toNat_natCast, Option.some.injEq, Prod.mk.injEq, true_and, and_true, exists_eq_left', c1 M (by omega), hRP.p33, hR.k22, c1 (M + 22) (by omega), s5]
      exact ⟨fun g => absurd g (by decide), fun _ => ⟨fun _ => rr, fun _ => ⟨by omega, by omega, by omega, fun g => by omega, fun _ => rr⟩⟩⟩
  · rw [decide_eq_false ha]
    refine ⟨fun _ => sp_X11_refuse hS.1 (fun H1 e1 => ?_), fun g => absurd rfl g⟩
    refine eX12_times fun _ _ _ => bX12_times_0 ?_
    simp only [Int.toNat_natCast, Option.some.injEq, Prod.mk.injEq, true_and, and_true, exists_eq_left', hR.k0]
    refine ⟨by omega, sp_X12_isSpan hR.k0 (n := nsp) (by rw [e1, upA_ne (by omega)]; exact b3) ?_⟩
    rw [decide_eq_false ha]
    exact ⟨fun _ => rej 1 H1 e1, fun g => absurd rfl g⟩
/-- both found nothing -/
theorem fn_none {c : Nat} {nb nr sx ld : Nat → Nat} {G : Mem} (F : FnI K H G X M c nb nr sx ld c 0) (no : ∀ i k, ¬ Vis ld c 0 i k) : G M 50 = -1 := by
  rcases F.2 with ⟨e, -⟩ | ⟨i, k, lst, -⟩
  · exact e
  · exact absurd lst.1 (no i k)
/-- both found the same -/
theorem fn_some {c i k : Nat} {nb nr sx ld : Nat → Nat} {G : Mem} (F : FnI K H G X M c nb nr sx ld c 0) (lst : LeastIn (tV H X c nb nr sx ld) ld c 0 i k) : i < c ∧ G M 50 = 10 * (i : Int) + (k : Int) ∧ (∃ n, n ≤ 14 ∧ BN (G (M + 26)) (24 * 0) n (tV H X c nb nr sx ld i k).1) ∧ ∃ n, n ≤ 12 ∧ BN (G (M + 26)) (24 * 1) n (tV H X c nb nr sx ld i k).2 := by
  rcases F.2 with ⟨-, no⟩ | ⟨i', k', l2, ic, e, n1, n2⟩
  · exact absurd lst.1 (no i k)
  · obtain ⟨x, y⟩ := lst.unique l2
    rw [← x, ← y] at e n1 n2
    exact ⟨by omega, e, n1, n2⟩
set_option maxHeartbeats 2000000 in
theorem sim_factor (h : Inv K H X M) (hq : ∀ r H', Inv K H' X M → q r r H') : Ci mX11_factor (d + 12) [(2, (X : Int))] K H (fun r H1 => Ci mX12_factor (d + 12) [(2, (M : Int))] K H1 (fun r' H2 => q r r' H2)) := by
  have hI := h
  obtain ⟨hM, hS, hR, hScr, hC, hRP, ⟨nb, nr, np, nz, nsp, ld, hH⟩, ho, hst⟩ := hI
  obtain ⟨b1, b2, b3, -, -⟩ := id hH.2.2.2
  refine eX11_factor fun _ => bX11_factor_0 ?_
  simp only [Int.toNat_natCast, Option.some.injEq, Prod.mk.injEq, true_and, and_true, exists_eq_left', hS.1, hC.1.2.2.2.2.1, hC.1.2.1, hS.2.2.2.2.2.2.1]
  refine ⟨by omega, by omega, ?_⟩
  by_cases h1 : 1 ≤ nsp
  · obtain ⟨bm, E, sp⟩ := hH.bm h h1
    refine sp_X0_reckonLeast (d := d + 6) bm sp hScr.2.1 hScr.2.2.1 ?_
    intro H1 v hv L
    have f := L.1
    have C1 : ClsP H1 X := hC.keep f.kept
    rcases L.2.2.2.2 with ⟨e0, no⟩ | ⟨e0, i, k, p, r, lst, x5, x6, dp, dr, rd, e, lp, lr⟩
    · refine ⟨fun g => absurd e0 g, fun _ => sp_X11_refuse hS.1 (fun H2 e2 => ?_)⟩
      have c2 : ∀ x, x = X + 23 ∨ X + 54 ≤ x → H2 x = H x := fun x hx => by rw [e2, upA_ne (by omega), f.1 x (by omega)]
      have E2 := E.cells (H' := H2) hM (fun x hx => c2 x (by omega))
      refine eX12_factor fun _ => bX12_factor_0 ?_
      simp only [Int.toNat_natCast, Option.some.injEq, Prod.mk.injEq, true_and, and_true, exists_eq_left', hR.k0]
      refine ⟨by omega, sp_X12_finds (d := d + 3) E2 hM ?_⟩
      intro G3 F
      have z := fn_none F no
      refine ⟨fun _ => ⟨fun g => absurd rfl g, fun _ => sp_X12_refuse hR.k0 (fun H4 e4 => hq _ _ ?_)⟩, fun g => absurd z g⟩
      have f4 : FC M [0] G3 H4 := by rw [e4]; exact FC.up0 rfl
      have o4 : FO [0] (G3 M) (H4 M) := by rw [e4, upA_same]; exact FO.up rfl
      exact h.askB f L.2.1 L.2.2.1 L.2.2.2.1 e2 (F.1.1.same (f4.wide rfl)) ((F.1.2.wide (l' := 0 :: 50 :: rfL) rfl).same (o4.wide rfl)) rfl rfl (by rw [e4, upA_same, up1_same])
    · refine ⟨fun _ => ?_, fun g => by omega⟩
      simp only [Int.toNat_natCast, Option.some.injEq, Prod.mk.injEq, true_and, and_true, exists_eq_left', C1.1.2.2.2.2.1, hS.2.2.2.2.2.2.1, C1.2.2.2.2.2.1.2.2.2.1]
      refine ⟨by omega, sp_X11_giveRatio (d := d + 8) (s := X + 35) hS C1.1 C1.2.1.1 L.2.2.1 (by omega) dp dr lp lr ?_⟩
      intro H2 g1 gX g2 g3 g4 g5
      have c2 : ∀ x, x = X + 23 ∨ X + 54 ≤ x → H2 x = H x := fun x hx => by rw [g1 x (by omega) (by omega) (by omega), f.1 x (by omega)]
      have E2 := E.cells (H' := H2) hM (fun x hx => c2 x (by omega))
      have tvv : tV H2 X nsp nb nr (fun j => (H (X + 54 + 3 * j) 1).toNat) ld = tV H X nsp nb nr (fun j => (H (X + 54 + 3 * j) 1).toNat) ld := funext fun n => funext fun l => tV_cells c2
      rw [← tvv] at lst e
      clear c2
      refine eX12_factor fun _ => bX12_factor_0 ?_
      simp only [Int.toNat_natCast, Option.some.injEq, Prod.mk.injEq, true_and, and_true, exists_eq_left', hR.k0]
      refine ⟨by omega, sp_X12_finds (d := d + 3) E2 hM ?_⟩
      intro G3 F
      obtain ⟨ic, z, ⟨n, n1, n2⟩, m, m1, m2⟩ := fn_some F lst
      have tp := tV_nn E2 ic lst.1.1
      refine ⟨fun g => by omega, fun _ => ⟨fun _ H4 e4 => ?_, fun g => absurd g (by decide)⟩⟩
      have v4 : H4 M = up1 (G3 M) 2 0 := by rw [e4, upA_same]
      have o4 : FO [2] (G3 M) (H4 M) := by rw [v4]; exact FO.up rfl
      have f4 : FC M [0] G3 H4 := by rw [e4]; exact FC.up0 rfl
      have p4 : RefP (H4 M) M := ((E2.keep hM F.1).2.1).cong [2] rfl o4
      have t4 : H4 M 2 = ((0 : Nat) : Int) := by rw [v4, up1_same]; rfl
      refine lg_held (p := 0) (N := 14) hR p4 (Lg.nil (T := 0) t4 (Nat.le_refl _)) rfl (by decide) (by decide) n1 (by decide) (by rw [f4.at 26 rfl]; exact n2) tp.1 fun G5 x5' L5 => ?_
      refine lg_held (p := 1) (N := 12) hR p4 L5 rfl (by decide) (by decide) m1 (by decide) (by rw [f4.at 26 rfl]; exact m2) (Int.le_of_lt tp.2) fun G6 x6' L6 => ?_
      refine lg_tells (d := d + 7) hR p4 L6 (i := 1) (j := 0) rfl rfl (by decide) (by decide) (by decide) tp.2 rd e g4 ?_
      intro G7 z1 z2 z3 z4 z5
      exact hq _ _ (h.outB f L.2.1 L.2.2.1 L.2.2.2.1 g1 gX g2 g3 g4 g5 ((((F.1.1.wide (l' := [0, 1, 2, 3, 4, 5, 14, 26]) rfl).same (f4.wide rfl)).same (L6.1.wide rfl)).same (z1.wide rfl)) ((((F.1.2.wide (l' := [0, 6, 7, 9, 50] ++ rfL) rfl).same (o4.wide rfl)).same (L6.2.1.wide rfl)).same (z2.wide rfl)) rfl rfl z4 z5 z3)
  · have n0 : nsp = 0 := by omega
    rw [n0] at b1 b3
    refine sp_X0_reckonLeast0 (d := d + 6) hS b1 ⟨fun g => absurd rfl g, fun _ => sp_X11_refuse hS.1 (fun H2 e2 => ?_)⟩
    refine eX12_factor fun _ => bX12_factor_0 ?_
    simp only [Int.toNat_natCast, Option.some.injEq, Prod.mk.injEq, true_and, and_true, exists_eq_left', hR.k0]
    refine ⟨by omega, sp_X12_finds0 (d := d + 10) hR (by rw [e2, upA_ne (by omega)]; exact b3) ?_⟩
    intro G3 e3
    refine ⟨fun g => absurd rfl g, fun _ => sp_X12_refuse hR.k0 (fun H4 e4 => hq _ _ ?_)⟩
    have f3 : FC M [0] H2 G3 := by rw [e3]; exact FC.up0 rfl
    have o3 : FO [50] (H2 M) (G3 M) := by rw [e3, upA_same]; exact FO.up rfl
    have f4 : FC M [0] G3 H4 := by rw [e4]; exact FC.up0 rfl
    have o4 : FO [0] (G3 M) (H4 M) := by rw [e4, upA_same]; exact FO.up rfl
    exact h.askB FrL.rf hScr.2.1 hScr.2.2.1 hScr.2.2.2.1 e2 (f3.same f4) ((o3.wide (l' := [0, 50]) rfl).same (o4.wide rfl)) rfl rfl (by rw [e4, upA_same, up1_same])
set_option maxHeartbeats 2000000 in
theorem sim_weakest (h : Inv K H X M) (hq : ∀ r H', Inv K H' X M → q r r H') : Ci mX11_weakest (d + 12) [(2, (X : Int))] K H (fun r H1 => Ci mX12_weakest (d + 12) [(2, (M : Int))] K H1 (fun r' H2 => q r r' H2)) := by
  have hI := h
  obtain ⟨hM, hS, hR, hScr, hC, hRP, ⟨nb, nr, np, nz, nsp, ld, hH⟩, ho, hst⟩ := hI
  obtain ⟨b1, b2, b3, -, -⟩ := id hH.2.2.2
  refine eX11_weakest fun _ => bX11_weakest_0 ?_
  simp only [Int.toNat_natCast, Option.some.injEq, Prod.mk.injEq, true_and, and_true, exists_eq_left', hS.1, hC.1.2.2.2.2.1, hC.1.2.1, hS.2.2.2.2.2.2.1]
  refine ⟨by omega, by omega, ?_⟩
  by_cases h1 : 1 ≤ nsp
  · obtain ⟨bm, E, sp⟩ := hH.bm h h1
    refine sp_X0_reckonLeast (d := d + 6) bm sp hScr.2.1 hScr.2.2.1 ?_
    intro H1 v hv L
    have f := L.1
    have C1 : ClsP H1 X := hC.keep f.kept
    rcases L.2.2.2.2 with ⟨e0, no⟩ | ⟨e0, i, k, p, r, lst, x5, x6, -, -, -, -, -, -⟩
    · refine ⟨fun g => absurd e0 g, fun _ => sp_X11_refuse hS.1 (fun H2 e2 => ?_)⟩
      have c2 : ∀ x, x = X + 23 ∨ X + 54 ≤ x → H2 x = H x := fun x hx => by rw [e2, upA_ne (by omega), f.1 x (by omega)]
      have E2 := E.cells (H' := H2) hM (fun x hx => c2 x (by omega))
      refine eX12_weakest fun _ => bX12_weakest_0 ?_
      simp only [Int.toNat_natCast, Option.some.injEq, Prod.mk.injEq, true_and, and_true, exists_eq_left', hR.k0]
      refine ⟨by omega, sp_X12_finds (d := d + 3) E2 hM ?_⟩
      intro G3 F
      have z := fn_none F no
      refine ⟨fun _ => ⟨fun g => absurd rfl g, fun _ => sp_X12_refuse hR.k0 (fun H4 e4 => hq _ _ ?_)⟩, fun g => absurd z g⟩
      have f4 : FC M [0] G3 H4 := by rw [e4]; exact FC.up0 rfl
      have o4 : FO [0] (G3 M) (H4 M) := by rw [e4, upA_same]; exact FO.up rfl
      exact h.askB f L.2.1 L.2.2.1 L.2.2.2.1 e2 (F.1.1.same (f4.wide rfl)) ((F.1.2.wide (l' := 0 :: 50 :: rfL) rfl).same (o4.wide rfl)) rfl rfl (by rw [e4, upA_same, up1_same])
    · have lv := lst.1
      have ik : i < nsp ∧ k < 2 := by
        have i1 : i < nsp := by unfold Vis at lv; omega
        have := (sp i i1).2.1
        unfold Vis at lv
        omega
      refine ⟨fun _ => ?_, fun g => by omega⟩
      simp only [Int.toNat_natCast, Option.some.injEq, Prod.mk.injEq, true_and, and_true, exists_eq_left', C1.1.2.2.2.2.1, hS.2.2.2.2.2.2.1, x5, x6]
      refine ⟨by omega, ⟨by omega, by omega⟩, ⟨by omega, by omega⟩, sp_X11_give hS.1 (fun H2 e2 => ?_)⟩
      have c2 : ∀ x, x = X + 23 ∨ X + 54 ≤ x → H2 x = H x := fun x hx => by rw [e2, upA_ne (by omega), f.1 x (by omega)]
      have E2 := E.cells (H' := H2) hM (fun x hx => c2 x (by omega))
      have tvv : tV H2 X nsp nb nr (fun j => (H (X + 54 + 3 * j) 1).toNat) ld = tV H X nsp nb nr (fun j => (H (X + 54 + 3 * j) 1).toNat) ld := funext fun n => funext fun l => tV_cells c2
      rw [← tvv] at lst
      clear c2
      refine eX12_weakest fun _ => bX12_weakest_0 ?_
      simp only [Int.toNat_natCast, Option.some.injEq, Prod.mk.injEq, true_and, and_true, exists_eq_left', hR.k0]
      refine ⟨by omega, sp_X12_finds (d := d + 3) E2 hM ?_⟩
      intro G3 F
      obtain ⟨ic, z, -, -⟩ := fn_some F lst
      refine ⟨fun g => by omega, fun _ => ⟨fun _ H4 e4 => ?_, fun g => absurd g (by decide)⟩⟩
      have v4 : H4 M = up1 (G3 M) 0 0 := by rw [e4, upA_same]
      have f4 : FC M [0] G3 H4 := by rw [e4]; exact FC.up0 rfl
      have o4 : FO [0] (G3 M) (H4 M) := by rw [v4]; exact FO.up rfl
      rw [o4 50 rfl, z]
      exact hq _ _ (h.askB f L.2.1 L.2.2.1 L.2.2.2.1 e2 (F.1.1.same (f4.wide rfl)) ((F.1.2.wide (l' := 0 :: 50 :: rfL) rfl).same (o4.wide rfl)) rfl rfl (by rw [v4, up1_same]))
  · have n0 : nsp = 0 := by omega
    rw [n0] at b1 b3
    refine sp_X0_reckonLeast0 (d := d + 6) hS b1 ⟨fun g => absurd rfl g, fun _ => sp_X11_refuse hS.1 (fun H2 e2 => ?_)⟩
    refine eX12_weakest fun _ => bX12_weakest_0 ?_
    simp only [Int.toNat_natCast, Option.some.injEq, Prod.mk.injEq, true_and, and_true, exists_eq_left', hR.k0]
    refine ⟨by omega, sp_X12_finds0 (d := d + 10) hR (by rw [e2, upA_ne (by omega)]; exact b3) ?_⟩
    intro G3 e3
    refine ⟨fun g => absurd rfl g, fun _ => sp_X12_refuse hR.k0 (fun H4 e4 => hq _ _ ?_)⟩
    have f3 : FC M [0] H2 G3 := by rw [e3]; exact FC.up0 rfl
    have o3 : FO [50] (H2 M) (G3 M) := by rw [e3, upA_same]; exact FO.up rfl
    have f4 : FC M [0] G3 H4 := by rw [e4]; exact FC.up0 rfl
    have o4 : FO [0] (G3 M) (H4 M) := by rw [e4, upA_same]; exact FO.up rfl
    exact h.askB FrL.rf hScr.2.1 hScr.2.2.1 hScr.2.2.2.1 e2 (f3.same f4) ((o3.wide (l' := [0, 50]) rfl).same (o4.wide rfl)) rfl rfl (by rw [e4, upA_same, up1_same])
end S9b
