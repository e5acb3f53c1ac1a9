/-! RodBeam$Chooser: putFirst, bearsAll -/
section Bea
variable {d : Nat} {K : Shp} {H G : Mem} {X s nb nr np : Nat}
set_option maxHeartbeats 1000000 in
theorem sp_X1_putFirst {q : Mem → Prop} {i : Nat} (hS1 : InvS K X) (hC : ChP (G (X + 73)) X) (hi : i < 16) (b0 : G (X + 80) 0 = 0 ∨ G (X + 80) 0 = 1) (bi : G (X + 80) i = 0 ∨ G (X + 80) i = 1)
    (hq : ∀ G', (∀ x, x < X + 78 ∨ X + 80 < x → G' x = G x) → G' (X + 78) = swF i (G (X + 78)) → G' (X + 79) = swF i (G (X + 79)) → G' (X + 80) = swF i (G (X + 80)) → q G') : Cv mX1_putFirst d [(2, ((X + 73 : Nat) : Int)), (0, (i : Int))] K G q := by
  refine eX1_putFirst fun _ _ => bX1_putFirst_0 ?_
  simp only [Int.toNat_natCast, Option.some.injEq, Prod.mk.injEq, true_and, and_true, exists_eq_left', hS1.k73, hC.p2, hS1.k78, hC.p3, hS1.k79, hC.p4, hS1.k80, Int.toNat_zero]
  refine ⟨by omega, by omega, by omega, by omega, by omega, by omega, by omega, by omega, by omega, fun H1 e1 => ?_⟩
  have c1 : ∀ x, x ≠ X + 78 → H1 x = G x := fun x hx => by rw [e1, upA_ne hx]
  have v1 : H1 (X + 78) = up1 (G (X + 78)) i (G (X + 78) 0) := by rw [e1, upA_same]
  simp only [Int.toNat_natCast, Option.some.injEq, Prod.mk.injEq, true_and, and_true, exists_eq_left', c1 (X + 73) (by omega), hC.p3, hS1.k79, c1 (X + 79) (by omega)]
  refine ⟨by omega, by omega, by omega, fun H2 e2 => ?_⟩
  have c2 : ∀ x, x ≠ X + 79 → H2 x = H1 x := fun x hx => by rw [e2, upA_ne hx]
  have v2 : H2 (X + 79) = up1 (G (X + 79)) i (G (X + 79) 0) := by rw [e2, upA_same]
  simp only [Int.toNat_natCast, Option.some.injEq, Prod.mk.injEq, true_and, and_true, exists_eq_left', c2 (X + 73) (by omega), c1 (X + 73) (by omega), hC.p4, hS1.k80, c2 (X + 80) (by omega), c1 (X + 80) (by omega)]
  refine ⟨by omega, by omega, by omega, b0, fun H3 e3 => ?_⟩
  have c3 : ∀ x, x ≠ X + 80 → H3 x = H2 x := fun x hx => by rw [e3, upA_ne hx]
  have v3 : H3 (X + 80) = up1 (G (X + 80)) i (G (X + 80) 0) := by rw [e3, upA_same]
  simp only [Int.toNat_natCast, Option.some.injEq, Prod.mk.injEq, true_and, and_true, exists_eq_left', c3 (X + 73) (by omega), c2 (X + 73) (by omega), c1 (X + 73) (by omega), hC.p2, hS1.k78]
  refine ⟨by omega, by omega, fun H4 e4 => ?_⟩
  have c4 : ∀ x, x ≠ X + 78 → H4 x = H3 x := fun x hx => by rw [e4, upA_ne hx]
  have v4 : H4 (X + 78) = swF i (G (X + 78)) := by rw [e4, upA_same, c3 _ (by omega), c2 _ (by omega), v1]; rfl
  simp only [Int.toNat_natCast, Option.some.injEq, Prod.mk.injEq, true_and, and_true, exists_eq_left', c4 (X + 73) (by omega), c3 (X + 73) (by omega), c2 (X + 73) (by omega), c1 (X + 73) (by omega), hC.p3, hS1.k79]
  refine ⟨by omega, by omega, fun H5 e5 => ?_⟩
  have c5 : ∀ x, x ≠ X + 79 → H5 x = H4 x := fun x hx => by rw [e5, upA_ne hx]
  have v5 : H5 (X + 79) = swF i (G (X + 79)) := by rw [e5, upA_same, c4 _ (by omega), c3 _ (by omega), v2]; rfl
  simp only [Int.toNat_natCast, Option.some.injEq, Prod.mk.injEq, true_and, and_true, exists_eq_left', c5 (X + 73) (by omega), c4 (X + 73) (by omega), c3 (X + 73) (by omega), c2 (X + 73) (by omega), c1 (X + 73) (by omega), hC.p4, hS1.k80]
  refine ⟨by omega, by omega, bi, fun H6 e6 => ?_⟩
  have c6 : ∀ x, x ≠ X + 80 → H6 x = H5 x := fun x hx => by rw [e6, upA_ne hx]
  have v6 : H6 (X + 80) = swF i (G (X + 80)) := by rw [e6, upA_same, c5 _ (by omega), c4 _ (by omega), v3]; rfl
  refine hq H6 (fun x hx => ?_) ?_ ?_ v6
  · rw [c6 x (by omega), c5 x (by omega), c4 x (by omega), c3 x (by omega), c2 x (by omega), c1 x (by omega)]
  · rw [c6 _ (by omega), c5 _ (by omega)]; exact v4
  · rw [c6 _ (by omega)]; exact v5
set_option maxHeartbeats 1000000 in
theorem sp_X1_bearsAll {q : Int → Mem → Prop} {ka : Nat} {Z : Int → Int → Int → Prop} {D : Nat → Int → Prop} {pn pm : Nat → Int} (C : ChE K G X s nb nr) (hT : StrB (G (X + 81)) nr) (hka : G (X + 73) 1 = (ka : Int)) (k16 : ka ≤ 16) (hm : ∀ p, p < np → -1000000 ≤ pm p ∧ pm p ≤ 1000000) (ask : AskD Z D np pn pm ka (G (X + 78)) (G (X + 79)) (G (X + 80)))
    (h1 : ∀ G', (∀ x, x < X + 74 ∨ X + 80 < x → G' x = G x) → WkP (G' (X + 74)) (X + 74) → AskD Z D np pn pm ka (G' (X + 78)) (G' (X + 79)) (G' (X + 80)) → (∀ j, j < ka → bSd G s nb nr (G (X + 81)) (G (X + 80) j) (G (X + 78) j) (G (X + 79) j) = true) → q 1 G')
    (h0 : ∀ G', (∀ x, x < X + 74 ∨ X + 80 < x → G' x = G x) → WkP (G' (X + 74)) (X + 74) → AskD Z D np pn pm ka (G' (X + 78)) (G' (X + 79)) (G' (X + 80)) → (¬ ∀ j, j < ka → bSd G s nb nr (G (X + 81)) (G (X + 80) j) (G (X + 78) j) (G (X + 79) j) = true) → q 0 G') :
    Ci mX1_bearsAll (d + 3) [(2, ((X + 73 : Nat) : Int)), (2, (s : Int))] K G q := by
  obtain ⟨hS1, hC, hW, sI, hs⟩ := id C
  refine eX1_bearsAll fun _ => bX1_bearsAll_0 ?_
  simp only [Int.toNat_natCast, Option.some.injEq, Prod.mk.injEq, true_and, and_true, exists_eq_left', hS1.k73, hC.p0, hC.p6, hS1.w74.1]
  refine ⟨by omega, by omega, sp_X9_arm sI hS1.w74 hW (by omega) hS1.k81 (by omega) hT ?_⟩
  intro H2 c2 w2 a2
  have loop : ∀ m k G1, k + m = ka → (∀ x, x ≠ X + 74 → x ≠ X + 77 → x ≠ X + 75 → x ≠ X + 76 → G1 x = G x) → WkP (G1 (X + 74)) (X + 74) → Armed G1 (X + 74) s (G (X + 81)) nb nr → (∀ j, j < k → bSd G s nb nr (G (X + 81)) (G (X + 80) j) (G (X + 78) j) (G (X + 79) j) = true) → FX1_bearsAll_14 (d + 2) K G1 q ((X + 73 : Nat) : Int) (s : Int) (k : Int) := by
    intro m
    induction m with
    | zero =>
      intro k G1 hm' e w A al
      have ek : k = ka := by omega
      rw [ek] at al
      refine bX1_bearsAll_14 ?_
      simp only [Int.toNat_natCast, Option.some.injEq, Prod.mk.injEq, true_and, and_true, exists_eq_left', hS1.k73, e (X + 73) (by omega) (by omega) (by omega) (by omega), hka]
      refine ⟨by omega, fun _ => h1 G1 (fun x hx => e x (by omega) (by omega) (by omega) (by omega)) w ?_ al, fun g => by omega⟩
      rw [e (X + 78) (by omega) (by omega) (by omega) (by omega), e (X + 79) (by omega) (by omega) (by omega) (by omega), e (X + 80) (by omega) (by omega) (by omega) (by omega)]
      exact ask
    | succ m ih =>
      intro k G1 hm' e w A al
      have e73 := e (X + 73) (by omega) (by omega) (by omega) (by omega)
      have e78 := e (X + 78) (by omega) (by omega) (by omega) (by omega)
      have e79 := e (X + 79) (by omega) (by omega) (by omega) (by omega)
      have e80 := e (X + 80) (by omega) (by omega) (by omega) (by omega)
      have es : ∀ j, j < 10 → G1 (s + j) = G (s + j) := fun j hj => e _ (by omega) (by omega) (by omega) (by omega)
      obtain ⟨hh, p, pp, p1, p2⟩ := ask.1 k (by omega)
      have hmm : -1000000 ≤ G (X + 79) k ∧ G (X + 79) k ≤ 1000000 := by rw [p2]; exact hm p pp
      have hb0 := (ask.1 0 (by omega)).1
      refine bX1_bearsAll_14 ?_
      simp only [Int.toNat_natCast, Option.some.injEq, Prod.mk.injEq, true_and, and_true, exists_eq_left', hS1.k73, e73, hka, hC.p2, hS1.k78, e78, hC.p3, hS1.k79, e79, hC.p4, hS1.k80, e80, hC.p0, hS1.w74.1]
      refine ⟨by omega, fun g => by omega, fun _ => ⟨by omega, by omega, by omega, by omega, by omega, by omega, by omega, by omega, sp_X9_bearsOn (sI.keepc es) hS1.w74 w (by omega) A hT hmm ?_⟩⟩
      intro H6 c6
      have e6 : ∀ x, x ≠ X + 74 → x ≠ X + 77 → x ≠ X + 75 → x ≠ X + 76 → H6 x = G x := fun x x1 x2 x3 x4 => (c6 x (by omega) (by omega)).trans (e x x1 x2 x3 x4)
      have w6 : WkP (H6 (X + 74)) (X + 74) := by rw [c6 _ (by omega) (by omega)]; exact w
      have A6 : Armed H6 (X + 74) s (G (X + 81)) nb nr := A.cells (c6 _ (by omega) (by omega)) (c6 _ (by omega) (by omega)) (fun j hj => c6 _ (by omega) (by omega))
      have eb : bSd G1 s nb nr (G (X + 81)) (G (X + 80) k) (G (X + 78) k) (G (X + 79) k) = bSd G s nb nr (G (X + 81)) (G (X + 80) k) (G (X + 78) k) (G (X + 79) k) := bSd_cells es
      by_cases hb : bSd G s nb nr (G (X + 81)) (G (X + 80) k) (G (X + 78) k) (G (X + 79) k) = true
      · have hb' := eb.trans hb
        unfold bSd at hb'
        rw [hb']
        refine ⟨fun _ => ⟨⟨by omega, by omega⟩, ih (k + 1) H6 (by omega) e6 w6 A6 (fun j hj => ?_)⟩, fun g => absurd g (by decide)⟩
        by_cases x : j = k
        · rw [x]; exact hb
        · exact al j (by omega)
      · have hb' : bSd G1 s nb nr (G (X + 81)) (G (X + 80) k) (G (X + 78) k) (G (X + 79) k) = false := by rw [eb]; simpa using hb
        unfold bSd at hb'
        rw [hb']
        have f78 := e6 (X + 78) (by omega) (by omega) (by omega) (by omega)
        have f79 := e6 (X + 79) (by omega) (by omega) (by omega) (by omega)
        have f80 := e6 (X + 80) (by omega) (by omega) (by omega) (by omega)
        refine ⟨fun g => absurd rfl g, fun _ => sp_X1_putFirst hS1 (by rw [e6 (X + 73) (by omega) (by omega) (by omega) (by omega)]; exact hC) (by omega) (by rw [f80]; exact hb0) (by rw [f80]; exact hh) ?_⟩
        intro H7 c7 g78 g79 g80
        refine h0 H7 (fun x hx => by rw [c7 x (by omega)]; exact e6 x (by omega) (by omega) (by omega) (by omega)) (by rw [c7 _ (by omega)]; exact w6) ?_ (fun al' => hb (al' k (by omega)))
        rw [g78, g79, g80, f78, f79, f80]
        exact ask.swap (by omega)
  exact loop ka 0 H2 (by omega) (fun x x1 x2 _ _ => c2 x x1 (by omega)) w2 a2 (fun j hj => absurd hj (by omega))
theorem bearOf_iff {us : Nat → Int} {n m : Int} : bearOf H s nb nr us n m = true ↔ bSd H s nb nr us 1 n m = true ∧ bSd H s nb nr us 0 n m = true := by
  unfold bearOf bearB bSd
  rw [Bool.and_eq_true]
theorem bSd_mono {us us' : Nat → Int} {hi n m : Int} (sI : SecI K H s nb nr) (hle : ∀ k, k < nr → us k ≤ us' k ∧ 0 ≤ us k ∧ us' k ≤ 200) (h : bSd H s nb nr us hi n m = true) : bSd H s nb nr us' hi n m = true := by
  obtain ⟨-, -, -, -, hf, -, hB, hR, -, -, -⟩ := sI
  exact bearS_mono hf hB hR (fun r hr => by have := hle r hr; omega) (fun r hr => by have := hle r hr; omega) (fun r hr => (hle r hr).1) h
theorem safe_mono {us us' pn pm : Nat → Int} (sI : SecI K H s nb nr) (hle : ∀ k, k < nr → us k ≤ us' k ∧ 0 ≤ us k ∧ us' k ≤ 200) (h : safeW (bearOf H s nb nr) np pn pm us) : safeW (bearOf H s nb nr) np pn pm us' := fun p hp => by
  have := bearOf_iff.mp (h p hp)
  exact bearOf_iff.mpr ⟨bSd_mono sI hle this.1, bSd_mono sI hle this.2⟩
theorem ask_safe {ka : Nat} {us pn pm ap ab ah : Nat → Int} (sI : SecI K H s nb nr) (hus : StrB us nr) (ask : AskD (fun hi n m => bSd H s nb nr (fun _ => 0) hi n m = true) (fun p hi => p < np ∧ (hi = 0 ∨ hi = 1)) np pn pm ka ap ab ah) : (∀ j, j < ka → bSd H s nb nr us (ah j) (ap j) (ab j) = true) ↔ safeW (bearOf H s nb nr) np pn pm us := by
  constructor
  · intro al p hp
    have one : ∀ hi : Int, (hi = 0 ∨ hi = 1) → bSd H s nb nr us hi (pn p) (pm p) = true := fun hi hh => by
      by_cases z : bSd H s nb nr (fun _ => 0) hi (pn p) (pm p) = true
      · exact bSd_mono sI (fun k hk => by have := hus k hk; omega) z
      · obtain ⟨j, j1, j2, j3, j4⟩ := ask.2 p hi ⟨hp, hh⟩ z
        have := al j j1
        rw [j2, j3, j4] at this
        exact this
    exact bearOf_iff.mpr ⟨one 1 (Or.inr rfl), one 0 (Or.inl rfl)⟩
  · intro sf j hj
    obtain ⟨hh, p, pp, p1, p2⟩ := ask.1 j hj
    have := bearOf_iff.mp (sf p pp)
    rw [p1, p2]
    rcases hh with e | e
    · rw [e]; exact this.2
    · rw [e]; exact this.1
end Bea
