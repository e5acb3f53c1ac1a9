/-! RodBeam$Chooser: listAsk, listAsks, putFirst, bearsAll -/
theorem InvS.k73 {K : Shp} {X : Nat} (h : InvS K X) : K[X + 73]? = some (1, 8) := h.2.2.2.2.2.2.2.2.2.2.2.2.2.1
theorem InvS.w74 {K : Shp} {X : Nat} (h : InvS K X) : WkS K (X + 74) := h.2.2.2.2.2.2.2.2.2.2.2.2.2.2.1
theorem InvS.k78 {K : Shp} {X : Nat} (h : InvS K X) : K[X + 78]? = some (20, 16) := h.2.2.2.2.2.2.2.2.2.2.2.2.2.2.2.1
theorem InvS.k79 {K : Shp} {X : Nat} (h : InvS K X) : K[X + 79]? = some (20, 16) := h.2.2.2.2.2.2.2.2.2.2.2.2.2.2.2.2.1
theorem InvS.k80 {K : Shp} {X : Nat} (h : InvS K X) : K[X + 80]? = some (22, 16) := h.2.2.2.2.2.2.2.2.2.2.2.2.2.2.2.2.2.1
theorem InvS.k81 {K : Shp} {X : Nat} (h : InvS K X) : K[X + 81]? = some (20, 6) := h.2.2.2.2.2.2.2.2.2.2.2.2.2.2.2.2.2.2.1
theorem InvS.k82 {K : Shp} {X : Nat} (h : InvS K X) : K[X + 82]? = some (20, 6) := h.2.2.2.2.2.2.2.2.2.2.2.2.2.2.2.2.2.2.2
theorem InvS.p15 {K : Shp} {X : Nat} (h : InvS K X) : K[X + 15]? = some (2, 3) ∧ K[X + 16]? = some (20, 8) ∧ K[X + 17]? = some (20, 8) := h.2.2.2.2.1
theorem ChP.p0 {g : Nat → Int} {X : Nat} (h : ChP g X) : g 0 = ((X + 74 : Nat) : Int) := h.1
theorem ChP.p2 {g : Nat → Int} {X : Nat} (h : ChP g X) : g 2 = ((X + 78 : Nat) : Int) := h.2.1
theorem ChP.p3 {g : Nat → Int} {X : Nat} (h : ChP g X) : g 3 = ((X + 79 : Nat) : Int) := h.2.2.1
theorem ChP.p4 {g : Nat → Int} {X : Nat} (h : ChP g X) : g 4 = ((X + 80 : Nat) : Int) := h.2.2.2.1
theorem ChP.p6 {g : Nat → Int} {X : Nat} (h : ChP g X) : g 6 = ((X + 81 : Nat) : Int) := h.2.2.2.2.1
theorem ChP.p7 {g : Nat → Int} {X : Nat} (h : ChP g X) : g 7 = ((X + 82 : Nat) : Int) := h.2.2.2.2.2
theorem ChP.fo {g g' : Nat → Int} {X : Nat} {l : List Nat} (h : ChP g X) (o : FO l g g') (hl : l.all (fun k => [1, 5].contains k) = true) : ChP g' X := by
  have o' := o.wide hl
  unfold ChP at *
  rw [o' 0 rfl, o' 2 rfl, o' 3 rfl, o' 4 rfl, o' 6 rfl, o' 7 rfl]; exact h
/-- a section with the strengths us, on one side -/
def bSd (H : Mem) (s nb nr : Nat) (us : Nat → Int) (hi n m : Int) : Bool := bearS (H s 0) (H s 1) (H (s + 1)) (H (s + 2)) (H (s + 3)) nb (H (s + 4)) us nr hi n m
/-- the pairs, as the class holds them -/
def PrI (K : Shp) (H : Mem) (X np : Nat) : Prop := H (X + 15) 0 = (np : Int) ∧ np ≤ 8 ∧ (H (X + 15) 1 = ((X + 16 : Nat) : Int) ∧ H (X + 15) 2 = ((X + 17 : Nat) : Int)) ∧ ∀ p, p < np → -1000000 ≤ H (X + 17) p ∧ H (X + 17) p ≤ 1000000
def ChE (K : Shp) (H : Mem) (X s nb nr : Nat) : Prop := InvS K X ∧ ChP (H (X + 73)) X ∧ WkP (H (X + 74)) (X + 74) ∧ SecI K H s nb nr ∧ X + 83 ≤ s
theorem SecI.fo {K : Shp} {H H' : Mem} {s nb nr : Nat} (h : SecI K H s nb nr) (o : FO [14, 15, 16] (H s) (H' s)) (e : ∀ j, 0 < j → j < 9 → H' (s + j) = H (s + j)) : SecI K H' s nb nr := by
  obtain ⟨a1, a2, a3, a4, a5, a6, a7, a8, a9, a10, a11⟩ := h
  unfold SecI SecP at *
  rw [o 0 rfl, o 1 rfl, o 2 rfl, o 3 rfl, o 4 rfl, o 5 rfl, o 6 rfl, o 7 rfl, o 8 rfl, o 9 rfl, o 10 rfl, o 11 rfl, o 12 rfl, o 13 rfl, o 17 rfl, e 1 (by omega) (by omega), e 2 (by omega) (by omega), e 3 (by omega) (by omega), e 4 (by omega) (by omega), e 5 (by omega) (by omega), e 6 (by omega) (by omega), e 7 (by omega) (by omega), e 8 (by omega) (by omega)]
  exact ⟨a1, a2, a3, a4, a5, a6, a7, a8, a9, a10, a11⟩
section Chs
variable {d : Nat} {K : Shp} {H G : Mem} {X s nb nr np : Nat}
theorem Armed.cells {H' : Mem} {w : Nat} {us : Nat → Int} (h : Armed H w s us nb nr) (e0 : H' w = H w) (e1 : H' (w + 3) = H (w + 3)) (e : ∀ j, j < 10 → H' (s + j) = H (s + j)) : Armed H' w s us nb nr := by
  unfold Armed at *
  rw [e0, e1, show H' s = H s from e 0 (by omega), e 2 (by omega), e 3 (by omega), e 4 (by omega)]; exact h
theorem bSd_cells {H' : Mem} {us : Nat → Int} {hi n m : Int} (e : ∀ j, j < 10 → H' (s + j) = H (s + j)) : bSd H' s nb nr us hi n m = bSd H s nb nr us hi n m := by
  unfold bSd
  rw [show H' s = H s from e 0 (by omega), e 1 (by omega), e 2 (by omega), e 3 (by omega), e 4 (by omega)]
theorem bSd_fo {H' : Mem} {us : Nat → Int} {hi n m : Int} (o : FO [14, 15, 16] (H s) (H' s)) (e : ∀ j, 0 < j → j < 9 → H' (s + j) = H (s + j)) : bSd H' s nb nr us hi n m = bSd H s nb nr us hi n m := by
  unfold bSd
  rw [o 0 rfl, o 1 rfl, e 1 (by omega) (by omega), e 2 (by omega) (by omega), e 3 (by omega) (by omega), e 4 (by omega) (by omega)]
/-- what listAsk leaves alone -/
def LsF (X : Nat) (G G' : Mem) : Prop := (∀ x, x ≠ X + 73 → x ≠ X + 75 → x ≠ X + 76 → (x < X + 78 ∨ X + 80 < x) → G' x = G x) ∧ FO [1] (G (X + 73)) (G' (X + 73))
theorem LsF.rf : LsF X G G := ⟨fun _ _ _ _ _ => rfl, FO.rf⟩
theorem LsF.tr {G' G2 : Mem} (h : LsF X G G') (h2 : LsF X G' G2) : LsF X G G2 := ⟨fun x a b c e => (h2.1 x a b c e).trans (h.1 x a b c e), h.2.same h2.2⟩
theorem ChE.ls {G' : Mem} (h : ChE K G X s nb nr) (f : LsF X G G') : ChE K G' X s nb nr := by
  obtain ⟨h1, h2, h3, h4, h5⟩ := h
  exact ⟨h1, h2.fo f.2 rfl, by rw [f.1 _ (by omega) (by omega) (by omega) (by omega)]; exact h3, h4.keepc (fun j hj => f.1 _ (by omega) (by omega) (by omega) (by omega)), h5⟩
set_option maxHeartbeats 1000000 in
theorem sp_X1_listAsk {q : Mem → Prop} {ka p : Nat} {hi : Int} {us : Nat → Int} {Z : Int → Int → Int → Prop} {D : Nat → Int → Prop} {pn pm : Nat → Int} (C : ChE K G X s nb nr) (hA : Armed G (X + 74) s us nb nr) (hS : StrB us nr) (hka : G (X + 73) 1 = (ka : Int)) (k16 : ka < 16) (hp : p < np) (hh : hi = 0 ∨ hi = 1) (hm : -1000000 ≤ pm p ∧ pm p ≤ 1000000)
    (hZ : ∀ hi n m, bSd G s nb nr us hi n m = true → Z hi n m) (ask : AskD Z D np pn pm ka (G (X + 78)) (G (X + 79)) (G (X + 80)))
    (hq : ∀ G' (ka' : Nat), LsF X G G' → G' (X + 73) 1 = (ka' : Int) → ka' ≤ ka + 1 → AskD Z (fun p' hi' => D p' hi' ∨ (p' = p ∧ hi' = hi)) np pn pm ka' (G' (X + 78)) (G' (X + 79)) (G' (X + 80)) → q G') :
    Cv mX1_listAsk (d + 3) [(2, ((X + 73 : Nat) : Int)), (2, (s : Int)), (0, pn p), (0, pm p), (0, hi)] K G q := by
  obtain ⟨hS1, hC, hW, sI, hs⟩ := C
  refine eX1_listAsk fun _ _ _ _ => bX1_listAsk_0 ?_
  simp only [Int.toNat_natCast, Option.some.injEq, Prod.mk.injEq, true_and, and_true, exists_eq_left', hS1.k73, hka, hC.p0, hS1.w74.1]
  refine ⟨by omega, fun g => by omega, fun _ => ⟨by omega, sp_X9_bearsOn sI hS1.w74 hW (by omega) hA hS hm ?_⟩⟩
  intro H6 c6
  have f6 : LsF X G H6 := ⟨fun x _ a b _ => c6 x (by omega) (by omega), by rw [c6 _ (by omega) (by omega)]; exact FO.rf⟩
  have e73 : H6 (X + 73) = G (X + 73) := c6 _ (by omega) (by omega)
  have e78 : H6 (X + 78) = G (X + 78) := c6 _ (by omega) (by omega)
  have e79 : H6 (X + 79) = G (X + 79) := c6 _ (by omega) (by omega)
  have e80 : H6 (X + 80) = G (X + 80) := c6 _ (by omega) (by omega)
  by_cases hb : bSd G s nb nr us hi (pn p) (pm p) = true
  · have hb' := hb
    unfold bSd at hb'
    rw [hb']
    refine ⟨fun _ => hq H6 ka f6 (by rw [e73]; exact hka) (by omega) (by rw [e78, e79, e80]; exact ask.skip (hZ _ _ _ hb)), fun g => absurd g (by decide)⟩
  · have hb' : bSd G s nb nr us hi (pn p) (pm p) = false := by simpa using hb
    unfold bSd at hb'
    rw [hb']
    refine ⟨fun g => absurd rfl g, fun _ => ?_⟩
    simp only [Int.toNat_natCast, Option.some.injEq, Prod.mk.injEq, true_and, and_true, exists_eq_left', e73, hka, hC.p2, hS1.k78]
    refine ⟨by omega, by omega, by omega, fun H7 e7 => ?_⟩
    have c7 : ∀ x, x ≠ X + 78 → H7 x = H6 x := fun x hx => by rw [e7, upA_ne hx]
    have v7 : H7 (X + 78) = up1 (H6 (X + 78)) ka (pn p) := by rw [e7, upA_same]
    simp only [Int.toNat_natCast, Option.some.injEq, Prod.mk.injEq, true_and, and_true, exists_eq_left', c7 (X + 73) (by omega), e73, hka, hC.p3, hS1.k79]
    refine ⟨by omega, by omega, by omega, fun H8 e8 => ?_⟩
    have c8 : ∀ x, x ≠ X + 79 → H8 x = H7 x := fun x hx => by rw [e8, upA_ne hx]
    have v8 : H8 (X + 79) = up1 (H7 (X + 79)) ka (pm p) := by rw [e8, upA_same]
    simp only [Int.toNat_natCast, Option.some.injEq, Prod.mk.injEq, true_and, and_true, exists_eq_left', c8 (X + 73) (by omega), c7 (X + 73) (by omega), e73, hka, hC.p4, hS1.k80]
    refine ⟨by omega, by omega, by omega, hh, fun H9 e9 => ?_⟩
    have c9 : ∀ x, x ≠ X + 80 → H9 x = H8 x := fun x hx => by rw [e9, upA_ne hx]
    have v9 : H9 (X + 80) = up1 (H8 (X + 80)) ka hi := by rw [e9, upA_same]
    simp only [Int.toNat_natCast, Option.some.injEq, Prod.mk.injEq, true_and, and_true, exists_eq_left', c9 (X + 73) (by omega), c8 (X + 73) (by omega), c7 (X + 73) (by omega), e73, hka]
    refine ⟨⟨by omega, by omega⟩, fun H10 e10 => ?_⟩
    have c10 : ∀ x, x ≠ X + 73 → H10 x = H9 x := fun x hx => by rw [e10, upA_ne hx]
    have v10 : H10 (X + 73) = up1 (G (X + 73)) 1 ((ka : Int) + 1) := by rw [e10, upA_same]
    clear e7 e8 e9 e10
    refine hq H10 (ka + 1) ⟨fun x x1 x2 x3 x4 => ?_, ?_⟩ ?_ (by omega) ?_
    · rw [c10 x x1, c9 x (by omega), c8 x (by omega), c7 x (by omega)]; exact f6.1 x x1 x2 x3 x4
    · rw [v10]; exact FO.up rfl
    · rw [v10, up1_same]; omega
    · rw [c10 (X + 78) (by omega), c9 (X + 78) (by omega), c8 (X + 78) (by omega), v7, e78, c10 (X + 79) (by omega), c9 (X + 79) (by omega), v8, c7 (X + 79) (by omega), e79, c10 (X + 80) (by omega), v9, c8 (X + 80) (by omega), c7 (X + 80) (by omega), e80]
      exact ask.add hp hh
set_option maxHeartbeats 1000000 in
theorem sp_X1_listAsks {q : Mem → Prop} {Z : Int → Int → Int → Prop} (C : ChE K G X s nb nr) (P : PrI K G X np) (hT : StrB (G (X + 81)) nr) (hZ : ∀ hi n m, bSd G s nb nr (G (X + 81)) hi n m = true → Z hi n m)
    (hq : ∀ G' (ka : Nat), (∀ x, x < X + 73 ∨ X + 80 < x → G' x = G x) → ChE K G' X s nb nr → FO [1] (G (X + 73)) (G' (X + 73)) → G' (X + 73) 1 = (ka : Int) → ka ≤ 16 → AskD Z (fun p hi => p < np ∧ (hi = 0 ∨ hi = 1)) np (G (X + 16)) (G (X + 17)) ka (G' (X + 78)) (G' (X + 79)) (G' (X + 80)) → q G') :
    Cv mX1_listAsks (d + 4) [(2, ((X + 73 : Nat) : Int)), (2, (s : Int)), (2, ((X + 15 : Nat) : Int))] K G q := by
  obtain ⟨hS1, hC, hW, sI, hs⟩ := id C
  obtain ⟨P1, P2, P3, P4⟩ := id P
  have k15 := hS1.p15
  refine eX1_listAsks fun _ => bX1_listAsks_0 ?_
  simp only [Int.toNat_natCast, Option.some.injEq, Prod.mk.injEq, true_and, and_true, exists_eq_left', hS1.k73]
  refine ⟨by omega, fun H1 e1 => ?_⟩
  have c1 : ∀ x, x ≠ X + 73 → H1 x = G x := fun x hx => by rw [e1, upA_ne hx]
  have v1 : H1 (X + 73) = up1 (G (X + 73)) 1 0 := by rw [e1, upA_same]
  have o1 : FO [1] (G (X + 73)) (H1 (X + 73)) := by rw [v1]; exact FO.up rfl
  have hC1 : ChP (H1 (X + 73)) X := hC.fo o1 rfl
  have sI1 : SecI K H1 s nb nr := sI.keepc (fun j hj => c1 _ (by omega))
  simp only [Int.toNat_natCast, Option.some.injEq, Prod.mk.injEq, true_and, and_true, exists_eq_left', hC1.p0, hC1.p6, hS1.w74.1]
  refine ⟨by omega, sp_X9_arm sI1 hS1.w74 (by rw [c1 _ (by omega)]; exact hW) (by omega) hS1.k81 (by omega) (by rw [c1 _ (by omega)]; exact hT) ?_⟩
  intro H2 c2 w2 a2
  rw [c1 (X + 81) (by omega)] at a2
  have e73 : H2 (X + 73) = H1 (X + 73) := c2 _ (by omega) (by omega)
  have cc : ∀ x, x < X + 73 ∨ X + 77 < x → H2 x = G x := fun x hx => (c2 x (by omega) (by omega)).trans (c1 x (by omega))
  have C2 : ChE K H2 X s nb nr := ⟨hS1, by rw [e73]; exact hC1, w2, sI.keepc (fun j hj => cc _ (by omega)), hs⟩
  have z2 : ∀ G', (∀ x, x < X + 73 ∨ X + 80 < x → G' x = G x) → ∀ hi n m, bSd G' s nb nr (G (X + 81)) hi n m = true → Z hi n m := fun G' e hi n m hb => hZ hi n m (by rw [bSd_cells (H := G) (fun j hj => e _ (by omega))] at hb; exact hb)
  have loop : ∀ m k ka G1, k + m = np → (∀ x, x < X + 73 ∨ X + 80 < x → G1 x = G x) → LsF X H2 G1 → G1 (X + 73) 1 = ((ka : Nat) : Int) → ka ≤ 2 * k → AskD Z (fun p hi => p < k ∧ (hi = 0 ∨ hi = 1)) np (G (X + 16)) (G (X + 17)) ka (G1 (X + 78)) (G1 (X + 79)) (G1 (X + 80)) → FX1_listAsks_19 (d + 3) K G1 q ((X + 73 : Nat) : Int) (s : Int) ((X + 15 : Nat) : Int) (k : Int) := by
    intro m
    induction m with
    | zero =>
      intro k ka G1 hm e f hka k2 ask
      have ek : k = np := by omega
      refine bX1_listAsks_19 ?_
      simp only [Int.toNat_natCast, Option.some.injEq, Prod.mk.injEq, true_and, and_true, exists_eq_left', k15.1, e (X + 15) (by omega), P1]
      refine ⟨by omega, fun _ => hq G1 ka e (C2.ls f) ?_ hka (by omega) (by rw [ek] at ask; exact ask), fun g => by omega⟩
      have := f.2
      rw [e73] at this
      exact o1.same this
    | succ m ih =>
      intro k ka G1 hm e f hka k2 ask
      have C1 := C2.ls f
      have A1 : Armed G1 (X + 74) s (G (X + 81)) nb nr := a2.cells (f.1 _ (by omega) (by omega) (by omega) (by omega)) (f.1 _ (by omega) (by omega) (by omega) (by omega)) (fun j hj => f.1 _ (by omega) (by omega) (by omega) (by omega))
      refine bX1_listAsks_19 ?_
      simp only [Int.toNat_natCast, Option.some.injEq, Prod.mk.injEq, true_and, and_true, exists_eq_left', k15.1, e (X + 15) (by omega), P1, P3.1, P3.2, k15.2.1, k15.2.2, e (X + 16) (by omega), e (X + 17) (by omega), hS1.k73]
      refine ⟨by omega, fun g => by omega, fun _ => ⟨by omega, by omega, by omega, by omega, by omega, by omega, sp_X1_listAsk (np := np) C1 A1 hT hka (by omega) (by omega) (by omega) (P4 k (by omega)) (z2 G1 e) ask ?_⟩⟩
      intro G3 ka3 f3 hka3 k3 ask3
      have e3 : ∀ x, x < X + 73 ∨ X + 80 < x → G3 x = G x := fun x hx => (f3.1 x (by omega) (by omega) (by omega) (by omega)).trans (e x hx)
      have A3 : Armed G3 (X + 74) s (G (X + 81)) nb nr := A1.cells (f3.1 _ (by omega) (by omega) (by omega) (by omega)) (f3.1 _ (by omega) (by omega) (by omega) (by omega)) (fun j hj => f3.1 _ (by omega) (by omega) (by omega) (by omega))
      simp only [Int.toNat_natCast, Option.some.injEq, Prod.mk.injEq, true_and, and_true, exists_eq_left', e3 (X + 15) (by omega), P3.1, P3.2, k15.2.1, k15.2.2, e3 (X + 16) (by omega), e3 (X + 17) (by omega)]
      refine ⟨by omega, by omega, by omega, by omega, sp_X1_listAsk (np := np) (C1.ls f3) A3 hT hka3 (by omega) (by omega) (by omega) (P4 k (by omega)) (z2 G3 e3) ask3 ?_⟩
      intro G4 ka4 f4 hka4 k4 ask4
      have e4 : ∀ x, x < X + 73 ∨ X + 80 < x → G4 x = G x := fun x hx => (f4.1 x (by omega) (by omega) (by omega) (by omega)).trans (e3 x hx)
      refine ⟨⟨by omega, by omega⟩, ih (k + 1) ka4 G4 (by omega) e4 ((f.tr f3).tr f4) hka4 (by omega) (ask4.wide (fun p hi hd => ?_))⟩
      by_cases x : p = k
      · rcases hd.2 with y | y
        · exact Or.inr ⟨x, y⟩
        · exact Or.inl (Or.inr ⟨x, y⟩)
      · exact Or.inl (Or.inl ⟨by omega, hd.2⟩)
  exact loop np 0 0 H2 (by omega) (fun x hx => cc x (by omega)) LsF.rf (by rw [e73, v1, up1_same]; rfl) (by omega) ⟨fun j hj => absurd hj (by omega), fun p hi hd => absurd hd.1 (by omega)⟩
end Chs
