/-! RodBeam$Walk -/
def WkS (K : Shp) (w : Nat) : Prop := K[w]? = some (9, 6) ∧ K[w + 1]? = some (5, 2) ∧ K[w + 2]? = some (5, 2) ∧ K[w + 3]? = some (20, 24)
def WkP (g : Nat → Int) (w : Nat) : Prop := g 0 = ((w + 1 : Nat) : Int) ∧ g 1 = ((w + 2 : Nat) : Int) ∧ g 2 = ((w + 3 : Nat) : Int)
/-- the walk w stands ready for section s with strengths us -/
def Armed (H : Mem) (w s : Nat) (us : Nat → Int) (nb nr : Nat) : Prop := H w 3 = -sumN us nr ∧ H w 4 = H s 2 + sumN us nr ∧ H w 5 = -2 * bnd0 (H s 1) (H (s + 4)) us nr ∧
  ∀ y : Nat, y ≤ 100 → isE (H (s + 2)) (H (s + 3)) nb (H (s + 4)) nr (y : Int) = true → H (w + 3) (cntE (H (s + 2)) (H (s + 3)) nb (H (s + 4)) nr y) = 2 * rAt (H (s + 4)) us nr (y : Int)
theorem cnt_inj {bf bt rh : Nat → Int} {nb nr x y : Nat} (hx : isE bf bt nb rh nr (x : Int) = true) (hy : isE bf bt nb rh nr (y : Int) = true) (h : cntE bf bt nb rh nr x = cntE bf bt nb rh nr y) : x = y := by
  rcases Nat.lt_trichotomy x y with q | q | q
  · have := cnt_lt q hx; omega
  · exact q
  · have := cnt_lt q hy; omega
theorem sumN_mul {g : Nat → Int} {c : Int} : ∀ (n : Nat), sumN (fun j => c * g j) n = c * sumN g n
  | 0 => by simp [sumN]
  | n + 1 => by
    simp only [sumN]
    rw [sumN_mul n, Int.mul_add]
theorem bnd0_bd {z : Int} {rh us : Nat → Int} {nr : Nat} (hz : 0 ≤ z ∧ z ≤ 100) (hR : RodB rh nr) (hS : StrB us nr) : ∀ i, i ≤ nr → -(20000 * (i : Int)) ≤ bnd0 z rh us i ∧ bnd0 z rh us i ≤ 20000 * (i : Int) := by
  intro i
  induction i with
  | zero => intro _; exact ⟨by simp [bnd0, sumN], by simp [bnd0, sumN]⟩
  | succ i ih =>
    intro hi
    have h1 := ih (by omega)
    have h2 := hR.2 i (by omega)
    have h3 := hS i (by omega)
    have h4 := mabs (show -200 ≤ us i by omega) (show us i ≤ 200 by omega) (show -100 ≤ rh i - z by omega) (show rh i - z ≤ 100 by omega)
    have e : bnd0 z rh us (i + 1) = bnd0 z rh us i + us i * (rh i - z) := rfl
    rw [e]
    omega
set_option maxHeartbeats 1000000 in
theorem sp_X9_arm {d : Nat} {K : Shp} {H : Mem} {w s t nb nr : Nat} {q : Mem → Prop} (hI : SecI K H s nb nr) (hw : WkS K w) (hwp : WkP (H w) w) (hws : w + 3 < s) (ht : K[t]? = some (20, 6)) (ht1 : t ≠ w + 3) (hS : StrB (H t) nr)
    (hq : ∀ H', (∀ x, x ≠ w → x ≠ w + 3 → H' x = H x) → WkP (H' w) w → Armed H' w s (H t) nb nr → q H') : Cv mX9_arm (d + 1) [(2, (w : Int)), (2, (s : Int)), (2, (t : Int))] K H q := by
  obtain ⟨hk, hp, hn, hr, hf, hz, hB, hR, hS5, h2, hE⟩ := hI
  obtain ⟨k0, k1, k2, k3, k4, k5, k6, k7, k8, k9⟩ := hk
  obtain ⟨p4, p5, p6, p8, p9, p11, p12, p13, p17⟩ := hp
  obtain ⟨w0, w1, w2, w3⟩ := hw
  obtain ⟨v0, v1, v2⟩ := hwp
  have h24 := cnt_24 hB.1 hR.1 (bf := H (s + 2)) (bt := H (s + 3)) (rh := H (s + 4)) (fun b hb => by have := hB.2 b hb; omega) (fun r hr => (hR.2 r hr).1)
  have htw : t ≠ w := ne_kind ht w0 (by simp)
  have hab := area_bd hB nb (Nat.le_refl _)
  have hb8 := hB.1
  have hr6 := hR.1
  have hab2 := mul_bd (show 0 ≤ H s 0 by omega) hf.2 hab.1 (show areaF (H (s + 1)) (H (s + 2)) (H (s + 3)) nb ≤ 80000 by omega)
  refine eX9_arm fun _ => bX9_arm_0 ?_
  simp only [Int.toNat_natCast, Option.some.injEq, Prod.mk.injEq, true_and, and_true, exists_eq_left', w0, v2]
  refine ⟨by omega, (sp_filli w3 (by decide)).mono ?_⟩
  rintro _ ⟨f0, rfl, hf0⟩
  have loop : ∀ (n i : Nat), i + n = nr → ∀ G : Mem, (∀ x, x ≠ w + 3 → G x = H x) → (∀ e, e < 24 → G (w + 3) e = sumN (fun r => if H (s + 8) r = (e : Int) then 2 * H t r else 0) i) → FX9_arm_16 d K G q (w : Int) (s : Int) (t : Int) (sumN (H t) i) (-bnd0 (H s 1) (H (s + 4)) (H t) i) (i : Int) := by
    intro n
    induction n with
    | zero =>
      intro i hi G h1 h3
      have e : i = nr := by omega
      subst e
      have hpb := pull_bd hS i (Nat.le_refl _)
      have hbb := bnd0_bd hz hR hS i (Nat.le_refl _)
      have gs := h1 s (by omega)
      have gw := h1 w (by omega)
      refine bX9_arm_16 ?_
      simp only [Int.toNat_natCast, Option.some.injEq, Prod.mk.injEq, true_and, and_true, exists_eq_left', gs, gw, hr, k0, w0]
      refine ⟨by omega, fun _ => ⟨⟨by omega, by omega⟩, by omega, fun H7 e7 => ?_⟩, fun h => absurd h (by omega)⟩
      have a7 : ∀ x, x ≠ w → H7 x = G x := fun x hx => by rw [e7, upA_ne hx]
      rw [a7 s (by omega), gs, h2]
      refine ⟨⟨by omega, by omega⟩, fun H9 e9 => ⟨⟨by omega, by omega⟩, fun H11 e11 => ?_⟩⟩
      have a9 : ∀ x, x ≠ w → H9 x = H7 x := fun x hx => by rw [e9, upA_ne hx]
      have a11 : ∀ x, x ≠ w → H11 x = G x := fun x hx => by rw [e11, upA_ne hx, a9 x hx, a7 x hx]
      have sw : H11 w = up1 (up1 (up1 (H w) 3 (-sumN (H t) i)) 4 (H s 0 * areaF (H (s + 1)) (H (s + 2)) (H (s + 3)) nb + sumN (H t) i)) 5 (2 * -bnd0 (H s 1) (H (s + 4)) (H t) i) := by rw [e11, upA_same, e9, upA_same, e7, upA_same]
      have b : ∀ x, x ≠ w → x ≠ w + 3 → H11 x = H x := fun x x1 x2 => (a11 x x1).trans (h1 x x2)
      refine hq H11 b ?_ ?_
      · rw [sw]
        exact ⟨by rw [up1_ne (by decide), up1_ne (by decide), up1_ne (by decide)]; exact v0, by rw [up1_ne (by decide), up1_ne (by decide), up1_ne (by decide)]; exact v1, by rw [up1_ne (by decide), up1_ne (by decide), up1_ne (by decide)]; exact v2⟩
      · have bs := b s (by omega) (by omega)
        refine ⟨?_, ?_, ?_, ?_⟩
        · rw [sw, up1_ne (by decide), up1_ne (by decide), up1_same]
        · rw [sw, up1_ne (by decide), up1_same, bs, h2]
        · rw [sw, up1_same, bs, b (s + 4) (by omega) (by omega)]; omega
        · rw [b (s + 2) (by omega) (by omega), b (s + 3) (by omega) (by omega), b (s + 4) (by omega) (by omega), a11 (w + 3) (by omega)]
          intro y hy he
          have hlt := cnt_lt (show y < 101 by omega) he
          rw [h3 _ (by omega)]
          unfold rAt
          rw [← sumN_mul]
          refine sumN_congr (fun r hr' => ?_)
          have hrr := hR.2 r hr'
          rw [hE.2.2 r hr']
          have ec : (((cntE (H (s + 2)) (H (s + 3)) nb (H (s + 4)) i (H (s + 4) r).toNat : Nat) : Int) = (cntE (H (s + 2)) (H (s + 3)) nb (H (s + 4)) i y : Int)) ↔ H (s + 4) r = (y : Int) := by
            constructor
            · intro h
              have e2 : ((H (s + 4) r).toNat : Int) = H (s + 4) r := by omega
              have := cnt_inj (show isE (H (s + 2)) (H (s + 3)) nb (H (s + 4)) i (((H (s + 4) r).toNat : Nat) : Int) = true from isE_iff.mpr (Or.inr (Or.inr ⟨r, hr', e2.symm⟩))) he (by omega)
              omega
            · intro h
              rw [h, Int.toNat_natCast]
          by_cases c : H (s + 4) r = (y : Int)
          · rw [if_pos (ec.mpr c), if_pos c]
          · rw [if_neg (fun q => c (ec.mp q)), if_neg c]; simp
    | succ n ih =>
      intro i hi G h1 h3
      have hpb := pull_bd hS i (by omega)
      have hbb := bnd0_bd hz hR hS i (by omega)
      have hui := hS i (by omega)
      have hri := hR.2 i (by omega)
      have gs := h1 s (by omega)
      have gw := h1 w (by omega)
      have g8 := h1 (s + 8) (by omega)
      have g4 := h1 (s + 4) (by omega)
      have gt := h1 t ht1
      have e2 : ((H (s + 4) i).toNat : Int) = H (s + 4) i := by omega
      have hlt := cnt_lt (show (H (s + 4) i).toNat < 101 by omega) (show isE (H (s + 2)) (H (s + 3)) nb (H (s + 4)) nr (((H (s + 4) i).toNat : Nat) : Int) = true from isE_iff.mpr (Or.inr (Or.inr ⟨i, by omega, e2.symm⟩)))
      have hfr := hE.2.2 i (by omega)
      generalize cntE (H (s + 2)) (H (s + 3)) nb (H (s + 4)) nr (H (s + 4) i).toNat = c at *
      have hroom := h3 c (by omega)
      have hrb := sumN_bd (n := i) (c := 400) (g := fun r => if H (s + 8) r = (c : Int) then 2 * H t r else 0) (fun j hj => by
        have := hS j (by omega)
        show 0 ≤ (if H (s + 8) j = (c : Int) then 2 * H t j else 0) ∧ (if H (s + 8) j = (c : Int) then 2 * H t j else 0) ≤ 400
        split <;> omega)
      have hmb := mabs (show -200 ≤ H t i by omega) (show H t i ≤ 200 by omega) (show -100 ≤ H (s + 4) i - H s 1 by omega) (show H (s + 4) i - H s 1 ≤ 100 by omega)
      refine bX9_arm_16 ?_
      simp only [Int.toNat_natCast, Option.some.injEq, Prod.mk.injEq, true_and, and_true, exists_eq_left', gs, gw, gt, g8, g4, hr, v2, p13, hfr, hroom, k0, w0, w3, k8, ht]
      refine ⟨by omega, fun h => absurd (by omega) h, fun _ => ⟨by omega, by omega, by omega, by omega, by omega, by omega, by omega, by omega, by omega, ⟨by omega, by omega⟩, ⟨by omega, by omega⟩, fun G1 e1 => ?_⟩⟩
      have b0 : ∀ x, x ≠ w + 3 → G1 x = H x := fun x hx => by rw [e1, upA_ne hx, h1 x hx]
      have bs := b0 s (by omega)
      have b4 := b0 (s + 4) (by omega)
      have bt := b0 t ht1
      simp only [Int.toNat_natCast, Option.some.injEq, Prod.mk.injEq, true_and, and_true, exists_eq_left', bs, bt, b4, p8, k4]
      refine ⟨⟨by omega, by omega⟩, by omega, by omega, ⟨by omega, by omega⟩, ⟨by omega, by omega⟩, ⟨by omega, by omega⟩, ⟨by omega, by omega⟩, ?_⟩
      have e3 : -bnd0 (H s 1) (H (s + 4)) (H t) i - H t i * (H (s + 4) i - H s 1) = -bnd0 (H s 1) (H (s + 4)) (H t) (i + 1) := by
        show _ = -(bnd0 (H s 1) (H (s + 4)) (H t) i + H t i * (H (s + 4) i - H s 1))
        omega
      rw [e3]
      refine ih (i + 1) (by omega) G1 b0 ?_
      intro e he
      rw [e1, upA_same]
      show _ = sumN (fun r => if H (s + 8) r = (e : Int) then 2 * H t r else 0) i + (if H (s + 8) i = (e : Int) then 2 * H t i else 0)
      rw [hfr]
      by_cases ee : e = c
      · subst ee; rw [up1_same, if_pos rfl]
      · rw [up1_ne ee, if_neg (by omega), h3 e he]; omega
  refine loop nr 0 (by omega) _ (fun x hx => upA_ne hx) (fun e he => ?_)
  rw [upA_same, hf0 e he]; rfl
theorem sp_X9_reaches {d : Nat} {K : Shp} {H : Mem} {w : Nat} {n : Int} {q : Int → Mem → Prop} (hw : WkS K w) (hq : q (bI (decide (H w 3 ≤ n ∧ n ≤ H w 4))) H) : Ci mX9_reaches d [(2, (w : Int)), (0, n)] K H q := by
  refine eX9_reaches fun _ _ => bX9_reaches_0 ?_
  simp only [Int.toNat_natCast, Option.some.injEq, Prod.mk.injEq, true_and, and_true, exists_eq_left', hw.1]
  refine ⟨by omega, fun h => ?_, fun h => ⟨fun h2 => ?_, fun h2 => ?_⟩⟩
  · rw [decide_eq_false (by omega)] at hq; exact hq
  · rw [decide_eq_false (by omega)] at hq; exact hq
  · rw [decide_eq_true (by omega)] at hq; exact hq
theorem tw_step {g B x m : Int} : g * B + 2 * x * (g * m) = g * (B + 2 * x * m) := by grind
theorem tw_pass {g B x m m2 : Int} : g * B + x * (g * m + g * m2) = g * (B + x * (m + m2)) := by grind
theorem fin_N {g X p r : Int} : g * X * p + -(g * r) * r = g * (X * p - r * r) := by grind
set_option maxHeartbeats 2000000 in
theorem sp_X9_fill {d : Nat} {K : Shp} {H : Mem} {w s nb nr : Nat} {us : Nat → Int} {n hi N D P Z : Int} {q : Mem → Prop} (hI : SecI K H s nb nr) (hw : WkS K w) (hwp : WkP (H w) w) (hws : w + 3 < s) (hA : Armed H w s us nb nr) (hS : StrB us nr)
    (hn0 : 0 ≤ n + sumN us nr) (hn1 : n + sumN us nr ≤ 4002400) (hR4 : walkR (H s 0) (H s 1) (H (s + 1)) (H (s + 2)) (H (s + 3)) nb (H (s + 4)) us nr hi (n + sumN us nr) = some (N, D, P, Z))
    (hq : ∀ H', (∀ x, x ≠ w + 1 → x ≠ w + 2 → H' x = H x) → H' (w + 1) 0 = sgF hi * N → H' (w + 1) 1 = D → H' (w + 2) 0 = cutT hi P Z → H' (w + 2) 1 = Z → q H') : Cv mX9_fill (d + 1) [(2, (w : Int)), (2, (s : Int)), (0, n), (0, hi)] K H q := by
  obtain ⟨hk, hp, hnb, hnr, hf, hz, hB, hR, hS5, h2, hE⟩ := hI
  obtain ⟨k0, k1, k2, k3, k4, k5, k6, k7, k8, k9⟩ := hk
  obtain ⟨p4, p5, p6, p8, p9, p11, p12, p13, p17⟩ := hp
  obtain ⟨w0, w1, w2, w3⟩ := hw
  obtain ⟨v0, v1, v2⟩ := hwp
  obtain ⟨a3, a4, a5, a6⟩ := hA
  obtain ⟨hE1, hE2, -⟩ := hE
  have h24 := cnt_24 hB.1 hR.1 (bf := H (s + 2)) (bt := H (s + 3)) (rh := H (s + 4)) (fun b hb => by have := hB.2 b hb; omega) (fun r hr => (hR.2 r hr).1)
  have hr6 := hR.1
  have hpb := pull_bd hS nr (Nat.le_refl _)
  have hbb := bnd0_bd hz hR hS nr (Nat.le_refl _)
  have hsg : sgF hi = 1 ∨ sgF hi = -1 := by unfold sgF; split <;> omega
  refine eX9_fill fun _ _ _ => ?_
  have f276 : ∀ (rest tw y push : Int), 0 ≤ rest → rest ≤ 4002400 → 0 ≤ y → y ≤ 100 → -1000000000 ≤ tw + 2 * rest * (y - H s 1) → tw + 2 * rest * (y - H s 1) ≤ 1000000000 → -1000000000 ≤ tw → tw ≤ 1000000000 → 1 ≤ push → push ≤ 40000 →
      (tw + 2 * rest * (y - H s 1)) * push + -(sgF hi * rest) * rest = sgF hi * N → 2 * push = D → y * push + -(sgF hi * rest) = cutT hi P Z → push = Z → FX9_fill_276 d K H q (w : Int) (s : Int) rest tw y push (-(sgF hi * rest)) := by
    intro rest tw y push r0 r1 y0 y1 t0 t1 t2 t3 q0 q1 eN eD eP eZ
    have m1 := mabs t0 t1 (show -40000 ≤ push by omega) q1
    have m2 : -4002400 ≤ sgF hi * rest ∧ sgF hi * rest ≤ 4002400 := by rcases hsg with e | e <;> rw [e] <;> omega
    have m3 := mabs (show -4002400 ≤ -(sgF hi * rest) by omega) (show -(sgF hi * rest) ≤ 4002400 by omega) (show -4002400 ≤ rest by omega) r1
    have m4 := mabs (show -100 ≤ y by omega) y1 (show -40000 ≤ push by omega) q1
    refine bX9_fill_276 ?_
    simp only [Int.toNat_natCast, Option.some.injEq, Prod.mk.injEq, true_and, and_true, exists_eq_left', k0, w0, v0, v1, w1, w2]
    refine ⟨⟨by omega, by omega⟩, by omega, ⟨by omega, by omega⟩, ⟨by omega, by omega⟩, ⟨by omega, by omega⟩, by omega, ⟨by omega, by omega⟩, ⟨by omega, by omega⟩, ⟨by omega, by omega⟩, by omega, fun H14 e14 => ?_⟩
    have c14 : ∀ x, x ≠ w + 1 → H14 x = H x := fun x hx => by rw [e14, upA_ne hx]
    simp only [Int.toNat_natCast, Option.some.injEq, Prod.mk.injEq, true_and, and_true, exists_eq_left', c14 w (by omega), v0, w1]
    refine ⟨⟨by omega, by omega⟩, by omega, fun H18 e18 => ?_⟩
    have c18 : ∀ x, x ≠ w + 1 → H18 x = H x := fun x hx => by rw [e18, upA_ne hx, c14 x hx]
    have s18 : H18 (w + 1) = up1 (up1 (H (w + 1)) 0 ((tw + 2 * rest * (y - H s 1)) * push + -(sgF hi * rest) * rest)) 1 (2 * push) := by rw [e18, upA_same, e14, upA_same]
    simp only [Int.toNat_natCast, Option.some.injEq, Prod.mk.injEq, true_and, and_true, exists_eq_left', c18 w (by omega), v1, w2]
    refine ⟨⟨by omega, by omega⟩, ⟨by omega, by omega⟩, by omega, fun H23 e23 => ?_⟩
    have c23 : ∀ x, x ≠ w + 2 → H23 x = H18 x := fun x hx => by rw [e23, upA_ne hx]
    simp only [Int.toNat_natCast, Option.some.injEq, Prod.mk.injEq, true_and, and_true, exists_eq_left', c23 w (by omega), c18 w (by omega), v1, w2]
    refine ⟨by omega, fun H26 e26 => ?_⟩
    have c26 : ∀ x, x ≠ w + 2 → H26 x = H18 x := fun x hx => by rw [e26, upA_ne hx, c23 x hx]
    have s26 : H26 (w + 2) = up1 (up1 (H (w + 2)) 0 (y * push + -(sgF hi * rest))) 1 push := by rw [e26, upA_same, e23, upA_same, c18 (w + 2) (by omega)]
    refine hq H26 (fun x x1 x2 => (c26 x x2).trans (c18 x x1)) ?_ ?_ ?_ ?_
    · rw [c26 (w + 1) (by omega), s18, up1_ne (by decide), up1_same, eN]
    · rw [c26 (w + 1) (by omega), s18, up1_same, eD]
    · rw [s26, up1_ne (by decide), up1_same, eP]
    · rw [s26, up1_same, eZ]
  have fin : ∀ (k rest tw y push : Int), 0 ≤ rest → rest ≤ 4002400 → 0 ≤ y → y ≤ 100 → -1000000000 ≤ tw + 2 * rest * (y - H s 1) → tw + 2 * rest * (y - H s 1) ≤ 1000000000 → -1000000000 ≤ tw → tw ≤ 1000000000 → 1 ≤ push → push ≤ 40000 →
      (tw + 2 * rest * (y - H s 1)) * push + -(sgF hi * rest) * rest = sgF hi * N → 2 * push = D → y * push + -(sgF hi * rest) = cutT hi P Z → push = Z → FX9_fill_28 d K H q (w : Int) (s : Int) hi rest tw y push 1 k := by
    intro k rest tw y push r0 r1 y0 y1 t0 t1 t2 t3 q0 q1 eN eD eP eZ
    have f0 := f276 rest tw y push r0 r1 y0 y1 t0 t1 t2 t3 q0 q1 eN eD eP eZ
    have f264 : FX9_fill_264 d K H q (w : Int) (s : Int) hi rest tw y push := by
      refine bX9_fill_264 ⟨fun h => ?_, fun h => ⟨⟨by omega, by omega⟩, ?_⟩⟩
      · have e : -(sgF hi * rest) = rest := by unfold sgF; rw [if_pos h]; omega
        rw [e] at f0; exact f0
      · have e : -(sgF hi * rest) = -rest := by unfold sgF; rw [if_neg h]; omega
        rw [e] at f0; exact f0
    refine bX9_fill_28 ?_
    simp only [Int.toNat_natCast, Option.some.injEq, Prod.mk.injEq, true_and, and_true, exists_eq_left', k0]
    exact ⟨by omega, fun _ => f264, fun _ => ⟨fun _ => f264, fun h => absurd h (by decide)⟩⟩
  have lp : ∀ (n l : Nat), l + n = 100 → ∀ (k : Nat) (rest B v8 : Int), isE (H (s + 2)) (H (s + 3)) nb (H (s + 4)) nr (lvH hi l) = true → (if hi = 0 then k = idxL (H (s + 2)) (H (s + 3)) nb (H (s + 4)) nr hi l else k + 1 + idxL (H (s + 2)) (H (s + 3)) nb (H (s + 4)) nr hi l = cntE (H (s + 2)) (H (s + 3)) nb (H (s + 4)) nr 101) →
      rw_ (rhoF (H (s + 4)) us nr hi) (stF (H s 0) (H (s + 1)) (H (s + 2)) (H (s + 3)) nb hi) (armF (H s 1) hi) n l rest B = some (N, D, P, Z) → 0 ≤ rest → rest ≤ 4002400 → -(240000 + 200 * (4002400 - rest)) ≤ B → B ≤ 240000 + 200 * (4002400 - rest) → FX9_fill_28 d K H q (w : Int) (s : Int) hi rest (sgF hi * B) v8 1 0 (k : Int) := by
    intro n
    induction n using Nat.strongRecOn with
    | _ n ih =>
      intro l hl k rest B v8 he hidx hrw r0 r1 b0 b1
      obtain ⟨y, hy⟩ : ∃ y : Nat, y = if hi = 0 then l else 100 - l := ⟨_, rfl⟩
      have hy100 : y ≤ 100 := by rw [hy]; split <;> omega
      have hyl : lvH hi l = (y : Int) := by rw [hy]; unfold lvH; split <;> omega
      have hix : idxL (H (s + 2)) (H (s + 3)) nb (H (s + 4)) nr hi l = cntE (H (s + 2)) (H (s + 3)) nb (H (s + 4)) nr y := by rw [hy]; rfl
      have hyz : (y : Int) - H s 1 = sgF hi * (armF (H s 1) hi - l) := by rw [hy]; unfold sgF armF; split <;> omega
      rw [hyl] at he
      have hlt := cnt_lt (show y < 101 by omega) he
      have hey := (hE2 y hy100 he).1
      have hro := a6 y hy100 he
      have hrr : rhoF (H (s + 4)) us nr hi l = 2 * rAt (H (s + 4)) us nr (y : Int) := by unfold rhoF; rw [hyl]
      rw [← hrr] at hro
      have hrn := rho_nn (rh := H (s + 4)) hS hi l
      rw [hix] at hidx
      have ham : -100 ≤ armF (H s 1) hi - (l : Int) ∧ armF (H s 1) hi - (l : Int) ≤ 100 := by unfold armF; split <;> omega
      have hsgB : -840720000 ≤ sgF hi * B ∧ sgF hi * B ≤ 840720000 := by rcases hsg with e | e <;> rw [e] <;> omega
      generalize hC : cntE (H (s + 2)) (H (s + 3)) nb (H (s + 4)) nr y = c at *
      have hk24 : k < 24 := by
        by_cases h0 : hi = 0
        · rw [if_pos h0] at hidx; omega
        · rw [if_neg h0] at hidx; omega
      have s77 : FX9_fill_77 d K H q (w : Int) (s : Int) hi rest (sgF hi * B) 1 (k : Int) (c : Int) (if hi = 0 then (c : Int) + 1 else (c : Int) - 1) := by
        refine bX9_fill_77 ?_
        simp only [Int.toNat_natCast, Option.some.injEq, Prod.mk.injEq, true_and, and_true, exists_eq_left', k0, k6, p11, w0, v2, w3, hey, hro, hE1]
        rw [hyz]
        by_cases hc : rest ≤ rhoF (H (s + 4)) us nr hi l
        · have em : min rest (rhoF (H (s + 4)) us nr hi l) = rest := by omega
          have mm := mabs (show -(2 * rest) ≤ 2 * rest by omega) (Int.le_refl _) (show -100 ≤ sgF hi * (armF (H s 1) hi - (l : Int)) by rcases hsg with e | e <;> rw [e] <;> omega) (show sgF hi * (armF (H s 1) hi - (l : Int)) ≤ 100 by rcases hsg with e | e <;> rw [e] <;> omega)
          have f156 : FX9_fill_156 d K H q (w : Int) (s : Int) hi (rest - rest) (sgF hi * B + 2 * rest * (sgF hi * (armF (H s 1) hi - (l : Int)))) (y : Int) 1 (k : Int) (c : Int) (if hi = 0 then (c : Int) + 1 else (c : Int) - 1) 1 := by
            refine bX9_fill_156 ⟨fun _ => bX9_fill_258 ⟨⟨by omega, by omega⟩, ?_⟩, fun h => absurd h (by decide)⟩
            rw [rw_rod hc] at hrw
            cases hrw
            rw [tw_step, Int.sub_self]
            have m5 : -1000000000 ≤ sgF hi * (B + 2 * rest * (armF (H s 1) hi - (l : Int))) ∧ sgF hi * (B + 2 * rest * (armF (H s 1) hi - (l : Int))) ≤ 1000000000 := by
              have := mabs (show -(2 * rest) ≤ 2 * rest by omega) (Int.le_refl _) ham.1 ham.2
              rcases hsg with e | e <;> rw [e] <;> omega
            refine fin _ 0 _ _ 1 (by omega) (by omega) (by omega) (by omega) (by simp; omega) (by simp; omega) m5.1 m5.2 (by omega) (by omega) (by simp) (by omega) ?_ rfl
            unfold cutT
            rw [hy]
            split <;> simp <;> omega
          rw [em]
          refine ⟨by omega, by omega, by omega, by omega, by omega, by omega, by omega, ⟨by omega, by omega⟩, ⟨by rcases hsg with e | e <;> rw [e] <;> omega, by rcases hsg with e | e <;> rw [e] <;> omega⟩, ⟨by omega, by omega⟩, ⟨by omega, by omega⟩, ⟨by omega, by omega⟩, fun _ => f156, fun h => absurd (by omega) h⟩
        · have em : min rest (rhoF (H (s + 4)) us nr hi l) = rhoF (H (s + 4)) us nr hi l := by omega
          obtain ⟨n', en⟩ : ∃ n', n = n' + 1 := by
            cases n with
            | zero =>
              exfalso
              unfold rw_ at hrw
              rw [if_neg hc] at hrw
              cases hrw
            | succ n' => exact ⟨n', rfl⟩
          subst en
          rw [rw_pass hc] at hrw
          obtain ⟨len, hlen, hll, he2, hno, hst, hid2⟩ := next_lev (bw := H (s + 1)) (us := us) (f := H s 0) hi (l := l) (by omega) (by rw [hyl]; exact he)
          obtain ⟨y2, hy2⟩ : ∃ y2 : Nat, y2 = if hi = 0 then l + len else 100 - (l + len) := ⟨_, rfl⟩
          have hy2100 : y2 ≤ 100 := by rw [hy2]; split <;> omega
          have hyl2 : lvH hi (l + len) = (y2 : Int) := by rw [hy2]; unfold lvH; split <;> omega
          have hix2 : idxL (H (s + 2)) (H (s + 3)) nb (H (s + 4)) nr hi (l + len) = cntE (H (s + 2)) (H (s + 3)) nb (H (s + 4)) nr y2 := by rw [hy2]; rfl
          have hyz2 : (y2 : Int) - H s 1 = sgF hi * (armF (H s 1) hi - ((l + len : Nat) : Int)) := by rw [hy2]; unfold sgF armF; split <;> omega
          have he2' := he2
          rw [hyl2] at he2'
          have hlt2 := cnt_lt (show y2 < 101 by omega) he2'
          have hey2 := hE2 y2 hy2100 he2'
          have heyd := (hE2 y hy100 he).2
          rw [hC] at heyd
          rw [hix, hix2] at hid2
          generalize hC2 : cntE (H (s + 2)) (H (s + 3)) nb (H (s + 4)) nr y2 = c2 at *
          have hnx : (if hi = 0 then (c : Int) + 1 else (c : Int) - 1) = (c2 : Int) := by
            by_cases h0 : hi = 0
            · rw [if_pos h0] at hid2 ⊢; omega
            · rw [if_neg h0] at hid2 ⊢; omega
          have hden : H (s + 7) (min (c : Int) (c2 : Int)).toNat = H s 0 * wAt (H (s + 1)) (H (s + 2)) (H (s + 3)) nb (min (lvH hi l) (lvH hi (l + len))) := by
            rw [hyl, hyl2]
            by_cases h0 : hi = 0
            · rw [if_pos h0] at hid2 hy hy2
              rw [show min (c : Int) (c2 : Int) = (c : Int) by omega, show min (y : Int) (y2 : Int) = (y : Int) by omega, Int.toNat_natCast]
              exact heyd
            · rw [if_neg h0] at hid2 hy hy2
              rw [show min (c : Int) (c2 : Int) = (c2 : Int) by omega, show min (y : Int) (y2 : Int) = (y2 : Int) by omega, Int.toNat_natCast]
              exact hey2.2
          have hmax : max ((y2 : Int) - (y : Int)) (-((y2 : Int) - (y : Int))) = (len : Int) := by
            by_cases h0 : hi = 0
            · rw [if_pos h0] at hy hy2; omega
            · rw [if_neg h0] at hy hy2; omega
          have hs1 := st_nn hf.1 hB hi l
          have hs2 := st_le hf.1 hf.2 hB hi l
          have hs3 := hst 0 hlen
          simp only [Nat.add_zero] at hs3
          rw [hs3] at hs1 hs2
          generalize H s 0 * wAt (H (s + 1)) (H (s + 2)) (H (s + 3)) nb (min (lvH hi l) (lvH hi (l + len))) = sd at *
          have mm := mabs (show -(2 * rhoF (H (s + 4)) us nr hi l) ≤ 2 * rhoF (H (s + 4)) us nr hi l by omega) (Int.le_refl _) (show -100 ≤ sgF hi * (armF (H s 1) hi - (l : Int)) by rcases hsg with e | e <;> rw [e] <;> omega) (show sgF hi * (armF (H s 1) hi - (l : Int)) ≤ 100 by rcases hsg with e | e <;> rw [e] <;> omega)
          have mm2 := mabs (show -(2 * rhoF (H (s + 4)) us nr hi l) ≤ 2 * rhoF (H (s + 4)) us nr hi l by omega) (Int.le_refl _) ham.1 ham.2
          have hfl := mul_bd hs1 hs2 (show 0 ≤ (len : Int) by omega) (show (len : Int) ≤ 100 by omega)
          have f156 : FX9_fill_156 d K H q (w : Int) (s : Int) hi (rest - rhoF (H (s + 4)) us nr hi l) (sgF hi * B + 2 * rhoF (H (s + 4)) us nr hi l * (sgF hi * (armF (H s 1) hi - (l : Int)))) (y : Int) 1 (k : Int) (c : Int) (c2 : Int) 0 := by
            rw [tw_step]
            generalize hrho : rhoF (H (s + 4)) us nr hi l = ro at *
            have hB' : -(240000 + 200 * (4002400 - (rest - ro))) ≤ B + 2 * ro * (armF (H s 1) hi - (l : Int)) ∧ B + 2 * ro * (armF (H s 1) hi - (l : Int)) ≤ 240000 + 200 * (4002400 - (rest - ro)) := by omega
            generalize hBB : B + 2 * ro * (armF (H s 1) hi - (l : Int)) = B' at *
            generalize hrs : rest - ro = rs at *
            have hsB' : -(240000 + 200 * (4002400 - rs)) ≤ sgF hi * B' ∧ sgF hi * B' ≤ 240000 + 200 * (4002400 - rs) := by rcases hsg with e | e <;> rw [e] <;> omega
            refine bX9_fill_156 ⟨fun h => absurd (by trivial) h, fun _ => ?_⟩
            simp only [Int.toNat_natCast, Option.some.injEq, Prod.mk.injEq, true_and, and_true, exists_eq_left', k0, k7, k6, p11, p12, hden, hey2.1, hmax]
            refine ⟨by omega, by omega, by omega, by omega, by omega, by omega, by omega, ⟨by omega, by omega⟩, ⟨by omega, by omega⟩, ⟨by omega, by omega⟩, fun hgt => ?_, fun hle => ?_⟩
            · refine bX9_fill_210 ⟨fun _ => ?_, fun h => absurd (by trivial) h⟩
              simp only [Int.toNat_natCast, Option.some.injEq, Prod.mk.injEq, true_and, and_true, exists_eq_left', k0, k6, p11, hey2.1]
              have eyy : (y : Int) + (y2 : Int) - 2 * H s 1 = sgF hi * (armF (H s 1) hi - (l : Int)) + sgF hi * (armF (H s 1) hi - ((l + len : Nat) : Int)) := by omega
              have m6 := mabs (show -(sd * (len : Int)) ≤ sd * (len : Int) by omega) (Int.le_refl _) (show -200 ≤ (y : Int) + (y2 : Int) - 2 * H s 1 by omega) (show (y : Int) + (y2 : Int) - 2 * H s 1 ≤ 200 by omega)
              have m7 := mabs (show -(sd * (len : Int)) ≤ sd * (len : Int) by omega) (Int.le_refl _) (show -200 ≤ (armF (H s 1) hi - (l : Int)) + (armF (H s 1) hi - ((l + len : Nat) : Int)) by unfold armF; split <;> omega) (show (armF (H s 1) hi - (l : Int)) + (armF (H s 1) hi - ((l + len : Nat) : Int)) ≤ 200 by unfold armF; split <;> omega)
              refine ⟨by omega, by omega, by omega, by omega, ⟨by omega, by omega⟩, ⟨by omega, by omega⟩, ⟨by omega, by omega⟩, ⟨by omega, by omega⟩, ⟨by omega, by omega⟩, ⟨by omega, by omega⟩, bX9_fill_258 ⟨⟨by omega, by omega⟩, ?_⟩⟩
              rw [eyy, tw_pass]
              obtain ⟨len', rfl⟩ : ∃ len', len = len' + 1 := ⟨len - 1, by omega⟩
              have hj := jump_pass (rho := rhoF (H (s + 4)) us nr hi) (S := stF (H s 0) (H (s + 1)) (H (s + 2)) (H (s + 3)) nb hi) (a := armF (H s 1) hi) (s := sd) len' n' l rs B' (fun j hj => hst j hj) (fun j h1 h2 => hno j h1 h2) hs1 (by omega) (by omega)
              rw [hj] at hrw
              have eB : B' + sd * ((len' + 1 : Nat) : Int) * (2 * (armF (H s 1) hi - (l : Int)) - ((len' + 1 : Nat) : Int)) = B' + sd * ((len' + 1 : Nat) : Int) * (armF (H s 1) hi - (l : Int) + (armF (H s 1) hi - ((l + (len' + 1) : Nat) : Int))) := by
                congr 2
                omega
              rw [eB] at hrw
              refine ih (n' - len') (by omega) (l + (len' + 1)) (by omega) (k + 1) _ _ _ he2 ?_ hrw (by omega) (by omega) (by omega) (by omega)
              rw [hix2]
              by_cases h0 : hi = 0
              · rw [if_pos h0] at hid2 hidx ⊢; omega
              · rw [if_neg h0] at hid2 hidx ⊢; omega
            · refine bX9_fill_210 ⟨fun h => absurd h (by decide), fun _ => bX9_fill_258 ⟨⟨by omega, by omega⟩, ?_⟩⟩
              have hj := jump_end (rho := rhoF (H (s + 4)) us nr hi) (S := stF (H s 0) (H (s + 1)) (H (s + 2)) (H (s + 3)) nb hi) (a := armF (H s 1) hi) (s := sd) len n' l rs B' (fun j hj => hst j hj) (fun j h1 h2 => hno j h1 h2) (by omega) hle (by omega)
              rw [hj] at hrw
              have hinj := Option.some.inj hrw
              simp only [Prod.mk.injEq] at hinj
              obtain ⟨i1, i2, i3, i4⟩ := hinj
              have hsd : 1 ≤ sd := by
                rcases Int.lt_or_le 0 sd with q | q
                · omega
                · have e0 : sd = 0 := by omega
                  rw [e0] at hle
                  simp at hle
                  omega
              have m8 := mabs (show -(2 * rs) ≤ 2 * rs by omega) (Int.le_refl _) (show -100 ≤ (y : Int) - H s 1 by omega) (show (y : Int) - H s 1 ≤ 100 by omega)
              refine fin _ rs _ _ sd (by omega) (by omega) (by omega) (by omega) (by omega) (by omega) (by omega) (by omega) hsd hs2 ?_ i2 ?_ i4
              · rw [hyz, tw_step, fin_N, i1]
              · rw [← i3, ← i4]
                unfold cutT sgF
                rw [hy]
                by_cases h0 : hi = 0
                · rw [if_pos h0, if_pos h0, if_pos h0]; omega
                · rw [if_neg h0, if_neg h0, if_neg h0, show ((100 - l : Nat) : Int) = 100 - (l : Int) by omega, Int.sub_mul]; omega
          rw [em, hnx]
          refine ⟨by omega, by omega, by omega, by omega, by omega, by omega, by omega, ⟨by omega, by omega⟩, ⟨by rcases hsg with e | e <;> rw [e] <;> omega, by rcases hsg with e | e <;> rw [e] <;> omega⟩, ⟨by omega, by omega⟩, ⟨by omega, by omega⟩, ⟨by omega, by omega⟩, fun h => absurd h (by omega), fun _ => ⟨fun h => absurd h (by omega), fun _ => ⟨fun _ => f156, fun h => absurd (by omega) h⟩⟩⟩
      refine bX9_fill_28 ?_
      simp only [Int.toNat_natCast, Option.some.injEq, Prod.mk.injEq, true_and, and_true, exists_eq_left', k0, hE1]
      have s60 : FX9_fill_60 d K H q (w : Int) (s : Int) hi rest (sgF hi * B) 1 (k : Int) (c : Int) := by
        refine bX9_fill_60 ⟨fun h => ⟨⟨by omega, by omega⟩, ?_⟩, fun h => ⟨⟨by omega, by omega⟩, ?_⟩⟩
        · rw [if_pos h] at s77; exact s77
        · rw [if_neg h] at s77; exact s77
      refine ⟨by omega, fun h => absurd ?_ h, fun _ => ⟨fun h => absurd (by trivial) h, fun _ => ⟨fun h => ?_, fun h => ⟨⟨by omega, by omega⟩, ⟨by omega, by omega⟩, ?_⟩⟩⟩⟩
      · by_cases h0 : hi = 0
        · rw [if_pos h0] at hidx; omega
        · rw [if_neg h0] at hidx; omega
      · rw [if_pos h] at hidx
        rw [hidx] at s60 ⊢
        exact s60
      · rw [if_neg h] at hidx
        have e : (cntE (H (s + 2)) (H (s + 3)) nb (H (s + 4)) nr 101 : Int) - 1 - (k : Int) = (c : Int) := by omega
        rw [e]
        exact s60
  refine bX9_fill_0 ?_
  simp only [Int.toNat_natCast, Option.some.injEq, Prod.mk.injEq, true_and, and_true, exists_eq_left', w0, a3, a5]
  refine ⟨by omega, ⟨by omega, by omega⟩, ?_⟩
  have e1 : n - -sumN us nr = n + sumN us nr := by omega
  have e2 : -2 * bnd0 (H s 1) (H (s + 4)) us nr = sgF hi * (sgF hi * (-2 * bnd0 (H s 1) (H (s + 4)) us nr)) := by rcases hsg with e | e <;> rw [e] <;> omega
  rw [e1, e2]
  have e3 : -240000 ≤ sgF hi * (-2 * bnd0 (H s 1) (H (s + 4)) us nr) ∧ sgF hi * (-2 * bnd0 (H s 1) (H (s + 4)) us nr) ≤ 240000 := by rcases hsg with e | e <;> rw [e] <;> omega
  refine lp 100 0 (by omega) 0 _ _ _ ?_ ?_ hR4 hn0 hn1 (by omega) (by omega)
  · unfold lvH
    split
    · exact isE_0
    · exact isE_100
  · unfold idxL
    split
    · rfl
    · have := cnt_succ (bf := H (s + 2)) (bt := H (s + 3)) (rh := H (s + 4)) (nb := nb) (nr := nr) 100
      rw [if_pos isE_100] at this
      rw [this]
      show 0 + 1 + cntE (H (s + 2)) (H (s + 3)) nb (H (s + 4)) nr 100 = _
      omega
