/-! side by side: times, factor, weakest -/
theorem numL_nn {v : Int} (h : 0 ≤ v) : numL v = decL v.toNat := by
  unfold numL
  rw [if_neg (by omega), show v.natAbs = v.toNat by omega]
  rfl
section S9a
variable {d : Nat} {K : Shp} {H G : Mem} {X M c : Nat} {nb nr sx ld : Nat → Nat}
theorem sp_X11_giveRatio {s : Nat} {p r : Int} {qi : Int → Mem → Prop} (hS : InvS K X) (hX : RbP (H X) X) (hT1 : H (X + 1) 1 = ((X + 2 : Nat) : Int)) (hr : RatK K H s) (hs : X + 2 < s) (dp : Dig (H (s + 2)) p) (dr : Dig (H (s + 4)) r) (lp : p ≤ 18432000000000000000000) (lr : r ≤ 2560000000000000000000)
    (hq : ∀ H', (∀ c, c ≠ X → c ≠ X + 1 → c ≠ X + 2 → H' c = H c) → H' X = up1 (H X) 0 0 → FO [0] (H (X + 1)) (H' (X + 1)) → H' (X + 1) 0 = ((fracL p r).length : Int) → (fracL p r).length ≤ 110 → At (H' (X + 2)) 0 (fracL p r) → qi ((fracL p r).length : Int) H') : Ci mX11_giveRatio (d + 3) [(2, (X : Int)), (2, (s : Int))] K H qi := by
  have p0 := dp.nonneg
  have r0 := dr.nonneg
  have l1 : (decL p.toNat).length ≤ 23 := decL_len (by decide) (by omega)
  have l2 : (decL r.toNat).length ≤ 22 := decL_len (by decide) (by omega)
  have ef : fracL p r = decL p.toNat ++ ([47] ++ decL r.toNat) := by unfold fracL; rw [numL_nn p0, numL_nn r0]
  have el : (fracL p r).length ≤ 110 := by rw [ef]; simp; omega
  refine eX11_giveRatio fun _ => bX11_giveRatio_0 ?_
  simp only [Int.toNat_natCast, Option.some.injEq, Prod.mk.injEq, true_and, and_true, exists_eq_left', hS.1, hX.1, hS.2.1]
  refine ⟨by omega, by omega, sp_X8_writeRatio (T := X + 1) hS.2.1 hT1 hS.2.2.1 hr (by omega) dp dr (by omega) ?_⟩
  intro H5 w
  rw [if_pos rfl, List.nil_append, ← ef] at w
  obtain ⟨w1, w2, w3, w4, w5⟩ := w
  rw [Nat.zero_add] at w3
  have m5 : H5 X = H X := w1 X (by omega) (by omega)
  simp only [Int.toNat_natCast, Option.some.injEq, Prod.mk.injEq, true_and, and_true, exists_eq_left', m5, hX.1, hS.2.1, w3]
  exact ⟨by omega, sp_X11_give hS.1 (fun H' e' => hq H' (fun c c0 c1 c2 => by rw [e', upA_ne c0, w1 c c1 c2]) (by rw [e', upA_same, m5]) (by rw [e', upA_ne (by omega)]; exact w2) (by rw [e', upA_ne (by omega)]; exact w3) el (by rw [e', upA_ne (by omega)]; exact w5))⟩
theorem lg_tells {q : Int → Mem → Prop} {H0 : Mem} {T i j a b N N' : Nat} {l : List (Nat × Nat × Int)} {U W P Q : Int} (hk : RefS K M) (hp : RefP (H0 M) M) (L : Lg M H0 H T l) (hi : l[i]? = some (a, N, U)) (hj : l[j]? = some (b, N', W)) (hN : N ≤ 40) (hN' : N' ≤ 40) (hT : T + 1000 ≤ 20000) (hW : 0 < W) (rd : Red P Q) (e : P * W = U * Q) (el : (fracL P Q).length ≤ 110)
    (hq : ∀ H', FC M [0, 1, 2, 3, 4, 5] H H' → FO [0, 2, 6, 7, 9] (H M) (H' M) → H' M 0 = 0 → H' M 9 = ((fracL P Q).length : Int) → At (H' (M + 5)) 0 (fracL P Q) → q ((fracL P Q).length : Int) H') : Ci mX12_tells (d + 4) [(2, (M : Int)), (0, (a : Int)), (0, (b : Int))] K H q := by
  obtain ⟨f, o, t, ht, et, h⟩ := L
  obtain ⟨n, n1, n2, n3⟩ := h _ (List.mem_of_getElem? hi)
  obtain ⟨m, m1, m2, m3⟩ := h _ (List.mem_of_getElem? hj)
  dsimp only at n1 n2 n3 m1 m2 m3
  obtain ⟨rr1, rr2⟩ := red_of (N := U) (D := W) hW
  have hun := red_unique rd rr1 (by
    generalize W.tdiv ((Nat.gcd U.natAbs W.natAbs : Nat) : Int) = y at *
    generalize U.tdiv ((Nat.gcd U.natAbs W.natAbs : Nat) : Int) = z at *
    have e2 : W * (P * y) = W * (z * Q) := by clear rr1 rd h n3 m3; grind
    exact Int.eq_of_mul_eq_mul_left (by omega) e2)
  have hfl : (fracL P Q).length = (numL P).length + 1 + (numL Q).length := by unfold fracL; simp; omega
  refine sp_X12_tells hk (hp.cong [2] rfl o) et n2 m2 (by omega) (by omega) (by omega) n3 m3 hW ?_ ?_
  · rw [← hun.1, ← hun.2]; omega
  · rw [← hun.1, ← hun.2]; exact hq
theorem tV_cells {H' : Mem} {n l : Nat} (e : ∀ x, x = X + 23 ∨ X + 54 ≤ x → H' x = H x) : tV H' X c nb nr sx ld n l = tV H X c nb nr sx ld n l := by
  have eh : ∀ hi j, hgF H' X nb nr sx hi j = hgF H X nb nr sx hi j := fun hi j => bendP_keep (fun i hi' => e _ (by omega))
  unfold tV
  rw [e (X + 23) (by omega), e (X + 54 + 3 * n) (by omega), e (X + 54 + 3 * n + 1) (by omega), e (X + 54 + 3 * n + 2) (by omega), eh, show hgF H' X nb nr sx 0 = hgF H X nb nr sx 0 from funext fun j => eh 0 j]
theorem RefE.cells {H' : Mem} (E : RefE K H X M c nb nr sx ld) (hM : M = X + 123) (e : ∀ x, x = X + 23 ∨ (X + 54 ≤ x ∧ x ≤ X + 68) ∨ X + 83 ≤ x → H' x = H x) : RefE K H' X M c nb nr sx ld := by
  obtain ⟨hk, hp, hs, hc, hsp, he⟩ := E
  have c5 := hc.2.2
  have eM := e M (by omega)
  refine ⟨hk, by rw [eM]; exact hp, fun i hi => ?_, by rw [eM]; exact hc, fun j hj => ?_, by rw [e (M + 25) (by omega), e (X + 23) (by omega)]; exact he⟩
  · obtain ⟨a1, a2, a3⟩ := hs i hi
    refine ⟨a1.keepc (fun j hj => e _ (by omega)), ?_, ?_⟩
    · unfold RSec at *
      rw [e (M + 6) (by omega), e (M + 7) (by omega), e (M + 8) (by omega), e (M + 9) (by omega), e (M + 10) (by omega), e (M + 11) (by omega), e (M + 12) (by omega), e (X + 83 + 10 * i) (by omega), e (X + 83 + 10 * i + 1) (by omega), e (X + 83 + 10 * i + 2) (by omega), e (X + 83 + 10 * i + 3) (by omega), e (X + 83 + 10 * i + 4) (by omega)]
      exact a2
    · rw [e (M + 13) (by omega), e (X + 83 + 10 * i + 5) (by omega)]; exact a3
  · obtain ⟨a1, a2, a3⟩ := hsp j hj
    refine ⟨by rw [e (M + 21) (by omega)]; exact a1, a2, ?_⟩
    unfold SpanOk at *
    rw [e (M + 20) (by omega), e (M + 21) (by omega), e (M + 22) (by omega), e (M + 23) (by omega), e (M + 24) (by omega), e (X + 54 + 3 * j) (by omega), e (X + 54 + 3 * j + 1) (by omega), e (X + 54 + 3 * j + 2) (by omega)]
    exact a3
theorem ScrP.fr {H' : Mem} (h : ScrP K H X) (f : FrL X H H') (r1 : RatK K H' (X + 24)) (r2 : RatK K H' (X + 35)) (w : WkP (H' (X + 46)) (X + 46)) : ScrP K H' X := by
  obtain ⟨a1, a2, a3, a4, a5, a6, a7⟩ := h
  exact ⟨a1.cells (fun j hj => f.1 _ (by omega)), r1, r2, w, by rw [f.1 _ (by omega)]; exact a5, by rw [f.1 _ (by omega)]; exact a6, by rw [f.1 _ (by omega)]; exact a7⟩
theorem Kept.ref {H' : Mem} (hM : M = X + 123) (f1 : FC M [0, 1, 2, 3, 4, 5, 14, 19, 26] H H') (f2 : FO [0, 2, 6, 7, 9, 19, 20, 21, 22, 30, 38, 39, 40, 41, 42, 43, 44, 45, 46, 47, 48, 50] (H M) (H' M)) : Kept X H H' := fun x k hk => by
  by_cases xM : x = M
  · subst xM
    rw [f2 k (by unfold keepP at hk; simp; omega)]
  · rw [f1.ne (x := x) (fun j hj => by simp at hj; unfold keepP at hk; omega)]
theorem Kept.stat {H' : Mem} {v : Int} (e : H' = upA H X (up1 (H X) 0 v)) : Kept X H H' := fun x k hk => by
  by_cases xX : x = X
  · subst xX
    rw [e, upA_same, up1_ne (by unfold keepP at hk; omega)]
  · rw [e, upA_ne xX]
/-- a refused question about the beam -/
theorem Inv.askB {H1 H2 H3 : Mem} {v : Int} {lf lo : List Nat} (h : Inv K H X M) (f : FrL X H H1) (r1 : RatK K H1 (X + 24)) (r2 : RatK K H1 (X + 35)) (w : WkP (H1 (X + 46)) (X + 46)) (e2 : H2 = upA H1 X (up1 (H1 X) 0 v)) (f1 : FC M lf H2 H3) (f2 : FO lo (H2 M) (H3 M)) (c1 : lf.all (fun k => [0, 1, 2, 3, 4, 14, 19, 26].contains k) = true) (c2 : lo.all (fun k => [0, 2, 6, 7, 19, 20, 21, 22, 30, 38, 39, 40, 41, 42, 43, 44, 45, 46, 47, 48, 50].contains k) = true) (hst : H3 M 0 = v) : Inv K H3 X M := by
  have hM := h.1
  have g1 := f1.wide c1
  have g2 := f2.wide c2
  have c3 : ∀ x, x < M → H3 x = H2 x := fun x hx => f1.lt hx
  have cs : ∀ x, x ≠ X → H2 x = H1 x := fun x hx => by rw [e2, upA_ne hx]
  refine h.ask (Kept.tr (f.kept.tr (Kept.stat e2)) (Kept.ref hM (g1.wide rfl) (g2.wide rfl))) ((h.2.2.2.1.fr f r1 r2 w).cells (fun x hx => by rw [c3 x (by omega), cs x (by omega)])) (h.2.2.2.2.2.2.2.1.keep ?_ ?_ ?_ ?_) ?_
  · rw [c3 _ (by omega), cs _ (by omega), f.1 _ (by omega)]
  · rw [c3 _ (by omega), cs _ (by omega), f.1 _ (by omega)]
  · rw [g1.at 5 rfl, cs _ (by omega), f.1 _ (by omega)]
  · rw [g2 9 rfl, cs _ (by omega), f.1 _ (by omega)]
  · rw [hst, c3 _ (by omega), e2, upA_same, up1_same]
/-- the beam's environment on both sides -/
theorem Held.bm {np nz nsp : Nat} (h : Inv K H X M) (hH : Held K H X M nb nr np nz nsp ld) (h1 : 1 ≤ nsp) : BmI K H X nsp nb nr (fun j => (H (X + 54 + 3 * j) 1).toNat) ∧ RefE K H X M nsp nb nr (fun j => (H (X + 54 + 3 * j) 1).toNat) ld ∧ ∀ j, j < nsp → SpB H X j (ld j) := by
  obtain ⟨hM, hS, hR, hScr, hC, hRP, -, -, -⟩ := h
  obtain ⟨b1, b2, b3, b4, b5⟩ := hH.2.2.2
  have ss : ∀ j, j < nsp → H (X + 54 + 3 * j) 1 = (((H (X + 54 + 3 * j) 1).toNat : Nat) : Int) ∧ (H (X + 54 + 3 * j) 1).toNat < 4 := fun j hj => by
    have := (b4 j hj).2.2.2.1
    omega
  refine ⟨⟨hS, hC, hScr.2.2.2.1, fun i hi => (hH.1 i hi).1.1, b1, ⟨h1, b2⟩, fun j hj => ss j hj⟩, ⟨hR, hRP, fun i hi => (hH.1 i hi).1, ⟨b3, h1, b2⟩, fun j hj => ⟨?_, (ss j hj).2, b4 j hj⟩, b5⟩, fun j hj => ?_⟩
  · rw [(b4 j hj).2.2.1]; exact (ss j hj).1
  · obtain ⟨s1, s2, s3, s4, s5, s6, s7, s8⟩ := b4 j hj
    exact ⟨s6, s7, s2, fun k hk => (s8 k hk).2.2⟩
end S9a
