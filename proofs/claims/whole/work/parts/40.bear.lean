/-! BORNE: the class's side -/
theorem walkR_bd {f z : Int} {bw bf bt rh us : Nat → Int} {nb nr : Nat} {hi needs N D P Z : Int} (hf : 1 ≤ f ∧ f ≤ 50) (hz : 0 ≤ z ∧ z ≤ 100) (hB : BandB bw bf bt nb) (hR : RodB rh nr) (hS : StrB us nr) (hn : 0 ≤ needs) (h : walkR f z bw bf bt nb rh us nr hi needs = some (N, D, P, Z)) :
    (0 < D ∧ D ≤ 80000) ∧ (0 < Z ∧ Z ≤ 40000) ∧ (0 ≤ P ∧ P ≤ 100 * Z) ∧ -(D * (240000 + 200 * needs)) ≤ 2 * N ∧ 2 * N ≤ D * (240000 + 200 * needs) := by
  have hbb := bnd0_bd hz hR hS nr (Nat.le_refl _)
  have h6 := hR.1
  have hsg : sgF hi = 1 ∨ sgF hi = -1 := by unfold sgF; split <;> omega
  have hb : -240000 ≤ sgF hi * (-2 * bnd0 z rh us nr) ∧ sgF hi * (-2 * bnd0 z rh us nr) ≤ 240000 := by rcases hsg with e | e <;> rw [e] <;> omega
  exact walk_bd (rho := rhoF rh us nr hi) (S := stF f bw bf bt nb hi) (a := armF z hi) (M := 40000) (fun k => rho_nn hS hi k) (fun k => st_nn hf.1 hB hi k) (fun k => st_le hf.1 hf.2 hB hi k) (by decide) (by unfold armF; split <;> omega) (by unfold armF; split <;> omega) 100 0 needs _ 240000 N D P Z h (by omega) hn hb.1 hb.2
/-- whether M keeps to the side that the walk tells -/
def onSide (hi m : Int) (r : Option R4) : Bool := match r with
  | some (N, D, _, _) => if hi = 0 then decide (sgF hi * N ≤ m * D) else decide (m * D ≤ sgF hi * N)
  | none => false
def bearS (f z : Int) (bw bf bt : Nat → Int) (nb : Nat) (rh us : Nat → Int) (nr : Nat) (hi n m : Int) : Bool := decide (-sumN us nr ≤ n ∧ n ≤ f * areaF bw bf bt nb + sumN us nr) && onSide hi m (walkR f z bw bf bt nb rh us nr hi (n + sumN us nr))
def bearB (f z : Int) (bw bf bt : Nat → Int) (nb : Nat) (rh us : Nat → Int) (nr : Nat) (n m : Int) : Bool := bearS f z bw bf bt nb rh us nr 1 n m && bearS f z bw bf bt nb rh us nr 0 n m
theorem fareab {f : Int} {bw bf bt : Nat → Int} {nb : Nat} (hf : 1 ≤ f ∧ f ≤ 50) (hB : BandB bw bf bt nb) : 0 ≤ f * areaF bw bf bt nb ∧ f * areaF bw bf bt nb ≤ 4000000 := by
  have hab := area_bd hB nb (Nat.le_refl _)
  have hb8 := hB.1
  have := mul_bd (show 0 ≤ f by omega) hf.2 hab.1 (show areaF bw bf bt nb ≤ 80000 by omega)
  omega
theorem sp_X9_bearsOn {d : Nat} {K : Shp} {H : Mem} {w s nb nr : Nat} {us : Nat → Int} {n m hi : Int} {q : Int → Mem → Prop} (hI : SecI K H s nb nr) (hw : WkS K w) (hwp : WkP (H w) w) (hws : w + 3 < s) (hA : Armed H w s us nb nr) (hS : StrB us nr) (hm : -1000000 ≤ m ∧ m ≤ 1000000)
    (hq : ∀ H', (∀ x, x ≠ w + 1 → x ≠ w + 2 → H' x = H x) → q (bI (bearS (H s 0) (H s 1) (H (s + 1)) (H (s + 2)) (H (s + 3)) nb (H (s + 4)) us nr hi n m)) H') : Ci mX9_bearsOn (d + 2) [(2, (w : Int)), (2, (s : Int)), (0, n), (0, m), (0, hi)] K H q := by
  have hI' := hI
  obtain ⟨hk, hp, hnb, hnr, hf, hz, hB, hR, hS5, h2, hE⟩ := hI'
  have hfa := fareab hf hB
  have hr6 := hR.1
  have hpb := pull_bd hS nr (Nat.le_refl _)
  refine eX9_bearsOn fun _ _ _ _ => bX9_bearsOn_0 ?_
  simp only [Int.toNat_natCast, Option.some.injEq, Prod.mk.injEq, true_and, and_true, exists_eq_left', hw.1]
  refine ⟨by omega, sp_X9_reaches hw ?_⟩
  rw [hA.1, hA.2.1, h2]
  by_cases hc : -sumN us nr ≤ n ∧ n ≤ H s 0 * areaF (H (s + 1)) (H (s + 2)) (H (s + 3)) nb + sumN us nr
  · rw [decide_eq_true hc]
    obtain ⟨N, D, P, Z, hW⟩ := walk_some (us := us) (z := H s 1) (hi := hi) (needs := n + sumN us nr) hf.1 hB hR (by omega)
    have hbd := walkR_bd hf hz hB hR hS (by omega) hW
    refine ⟨fun _ => sp_X9_fill hI hw hwp hws hA hS (by omega) (by omega) hW ?_, fun h => absurd h (by decide)⟩
    intro H' c0 c1 c2 c3 c4
    have hq' := hq H' c0
    unfold bearS onSide at hq'
    rw [hW, decide_eq_true hc, Bool.true_and] at hq'
    simp only at hq'
    have mb := mabs hm.1 hm.2 (show -80000 ≤ D by omega) (show D ≤ 80000 by omega)
    simp only [Int.toNat_natCast, Option.some.injEq, Prod.mk.injEq, true_and, and_true, exists_eq_left', c0 w (by omega) (by omega), hwp.1, hw.2.1, c1, c2]
    refine ⟨by omega, ⟨by omega, by omega⟩, fun h0 => ⟨fun h => ?_, fun h => ?_⟩, fun h0 => ⟨fun h => ?_, fun h => ?_⟩⟩
    · rw [if_pos h0, decide_eq_false (by omega)] at hq'; exact hq'
    · rw [if_pos h0, decide_eq_true (by omega)] at hq'; exact hq'
    · rw [if_neg h0, decide_eq_false (by omega)] at hq'; exact hq'
    · rw [if_neg h0, decide_eq_true (by omega)] at hq'; exact hq'
  · rw [decide_eq_false hc]
    refine ⟨fun h => absurd (by decide) h, fun _ => ?_⟩
    have hq' := hq H (fun _ _ _ => rfl)
    unfold bearS at hq'
    rw [decide_eq_false hc, Bool.false_and] at hq'
    exact hq'
