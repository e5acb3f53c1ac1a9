/-! OUT: the reference's tells; the class's Text -/
def fracL (p q : Int) : List Int := numL p ++ ([47] ++ numL q)
section Tells
variable {d : Nat} {K : Shp} {H : Mem} {M : Nat}
theorem sp_X12_tells {q : Int → Mem → Prop} {t a b n m : Nat} {N D : Int} (hk : RefS K M) (hp : RefP (H M) M) (ht : H M 2 = (t : Int)) (ha : a + n < t) (hb : b + m < t) (hn : n ≤ 40) (hm : m ≤ 40) (h0 : t + 1000 ≤ 20000) (hN : BN (H (M + 1)) a n N) (hD : BN (H (M + 1)) b m D) (hD0 : 0 < D)
    (hlen : (numL (N.tdiv ((Nat.gcd N.natAbs D.natAbs : Nat) : Int))).length + (numL (D.tdiv ((Nat.gcd N.natAbs D.natAbs : Nat) : Int))).length ≤ 150)
    (hq : ∀ H', FC M [0, 1, 2, 3, 4, 5] H H' → FO [0, 2, 6, 7, 9] (H M) (H' M) → H' M 0 = 0 → H' M 9 = ((fracL (N.tdiv ((Nat.gcd N.natAbs D.natAbs : Nat) : Int)) (D.tdiv ((Nat.gcd N.natAbs D.natAbs : Nat) : Int))).length : Int) → At (H' (M + 5)) 0 (fracL (N.tdiv ((Nat.gcd N.natAbs D.natAbs : Nat) : Int)) (D.tdiv ((Nat.gcd N.natAbs D.natAbs : Nat) : Int))) → q ((fracL (N.tdiv ((Nat.gcd N.natAbs D.natAbs : Nat) : Int)) (D.tdiv ((Nat.gcd N.natAbs D.natAbs : Nat) : Int))).length : Int) H') : Ci mX12_tells (d + 4) [(2, (M : Int)), (0, (a : Int)), (0, (b : Int))] K H q := by
  have hg : 0 < Nat.gcd N.natAbs D.natAbs := Nat.gcd_pos_of_pos_right _ (by omega)
  generalize hG : Nat.gcd N.natAbs D.natAbs = g at *
  have hQ : 0 < D.tdiv (g : Int) := by
    have h1 : (g : Int) ∣ D := by
      rw [← hG]
      exact Int.natAbs_dvd_natAbs.mp (by simp; exact Nat.gcd_dvd_right _ _)
    obtain ⟨c, hc⟩ := h1
    rw [hc, Int.mul_tdiv_cancel_left _ (by omega)]
    rcases Int.lt_or_le 0 c with z | z
    · exact z
    · have := Int.mul_le_mul_of_nonneg_left z (show 0 ≤ (g : Int) by omega)
      omega
  have hll : (fracL (N.tdiv (g : Int)) (D.tdiv (g : Int))).length = (numL (N.tdiv (g : Int))).length + 1 + (numL (D.tdiv (g : Int))).length := by unfold fracL; simp; omega
  generalize hP : N.tdiv (g : Int) = P at *
  generalize hQ' : D.tdiv (g : Int) = Q at *
  refine eX12_tells fun _ _ _ => bX12_tells_0 ?_
  simp only [Int.toNat_natCast, Option.some.injEq, Prod.mk.injEq, true_and, and_true, exists_eq_left', hk.k0]
  refine ⟨by omega, sp_X12_common hk hp ht ha hb (by omega) (by omega) (by omega) hN hD ?_⟩
  rintro H1 k1 hk1 ⟨a1, a2, a3, a4, a5⟩
  rw [hG] at a5
  have hp1 : RefP (H1 M) M := hp.cong _ rfl a2
  refine sp_X12_divided (t := t + k1 + 1) hk hp1 a3 (by omega) (by omega) (by omega) (by omega) (hN.keep (t := t) (by omega) a4) a5 (by omega) ?_
  rintro H2 k2 hk2 ⟨b1, b2, b3, b4, b5⟩
  rw [hP] at b5
  have hp2 : RefP (H2 M) M := hp1.cong _ rfl b2
  have hD2 : BN (H2 (M + 1)) b m D := (hD.keep (t := t) (by omega) a4).keep (t := t + k1 + 1) (by omega) b4
  have hg2 : BN (H2 (M + 1)) t k1 (g : Int) := a5.keep (t := t + k1 + 1) (by omega) b4
  refine sp_X12_divided (t := t + k1 + 1 + k2 + 1) hk hp2 b3 (by omega) (by omega) (by omega) (by omega) hD2 hg2 (by omega) ?_
  rintro H3 k3 hk3 ⟨c1, c2, c3, c4, c5⟩
  rw [hQ'] at c5
  intro H4 e4
  have o4 : ∀ j, 0 < j → H4 (M + j) = H3 (M + j) := fun j hj => by rw [e4, upA_ne (by omega)]
  have m4 : H4 M = up1 (H3 M) 9 0 := by rw [e4, upA_same]
  have hp4 : RefP (H4 M) M := by rw [m4]; exact (hp2.cong _ rfl c2).cong [9] rfl (FO.up rfl)
  have bQ : BN (H4 (M + 1)) (t + k1 + 1 + k2 + 1) k3 Q := by rw [o4 1 (by omega)]; exact c5
  have bP : BN (H4 (M + 1)) (t + k1 + 1) k2 P := by rw [o4 1 (by omega)]; exact b5.keep (t := t + k1 + 1 + k2 + 1) (by omega) c4
  refine sp_X12_sign hk hp4 (by omega) bQ ⟨fun _ => ?_, fun z => absurd z (by rw [Int.sign_eq_one_of_pos hQ]; decide)⟩
  refine sp_X12_tellsNumber (p := 0) hk hp4 (by omega) (by omega) bP (by rw [m4, up1_same]; rfl) (by omega) ?_
  intro H5 d1 d2 d3 d4 d5
  have hp5 : RefP (H5 M) M := hp4.cong _ rfl d2
  refine sp_X12_tells0 (p := 0 + (numL P).length) hk hp5 d3 (by omega) ?_
  intro H6 f1 f2 f3 f4
  have hp6 : RefP (H6 M) M := hp5.cong _ rfl f2
  have bQ6 : BN (H6 (M + 1)) (t + k1 + 1 + k2 + 1) k3 Q := by rw [f1.at 1 rfl, d1.at 1 rfl]; exact bQ
  refine sp_X12_sign hk hp6 (by omega) bQ6 ⟨fun _ => ?_, fun z => absurd z (by rw [Int.sign_eq_one_of_pos hQ]; decide)⟩
  refine sp_X12_tellsNumber (p := 0 + (numL P).length + 1) hk hp6 (by omega) (by omega) bQ6 f3 (by omega) ?_
  intro H7 g1 g2 g3 g4 g5 H8 e8
  have m8 : H8 M = up1 (H7 M) 0 0 := by rw [e8, upA_same]
  have v9 : H8 M 9 = ((fracL P Q).length : Int) := by rw [m8, up1_ne (by decide), g3, hll]; omega
  rw [v9]
  refine hq H8 ?_ ?_ (by rw [m8, up1_same]) v9 ?_
  · intro c hc
    have z0 := hc 0 rfl
    have w : ∀ {l : List Nat}, l.all (fun k => [0, 1, 2, 3, 4, 5].contains k) = true → ∀ j, l.contains j = true → c ≠ M + j := fun hl j hj => hc j (by
      have := List.all_eq_true.mp hl j (List.contains_iff_mem.mp hj)
      exact this)
    rw [e8, upA_ne (by omega), g1 c (w rfl), f1 c (w rfl), d1 c (w rfl), e4, upA_ne (by omega), c1 c (w rfl), b1 c (w rfl), a1 c (w rfl)]
  · rw [m8]
    rw [m4] at d2
    exact (((((((a2.wide (l' := [0, 2, 6, 7, 9]) rfl).same (b2.wide rfl)).same (c2.wide rfl)).same (FO.up rfl)).same (d2.wide rfl)).same (f2.wide rfl)).same (g2.wide rfl)).same (FO.up rfl)
  · rw [show H8 (M + 5) = H7 (M + 5) by rw [e8, upA_ne (by omega)]]
    unfold fracL
    have h47 : At (H6 (M + 5)) 0 (numL P ++ [47]) := by
      rw [f4]
      have := d5.snoc (x := 47)
      exact this
    rw [← List.append_assoc]
    refine At.app (h47.congr (fun i hi => ?_)) ?_
    · rw [g4 _ (by simp at hi ⊢; omega)]
    · simp only [List.length_append, List.length_cons, List.length_nil]
      rw [show 0 + ((numL P).length + (0 + 1)) = 0 + (numL P).length + 1 by omega]
      exact g5
end Tells
/-- the class's text so far: list L behind p -/
def WSt (H G : Mem) (T p : Nat) (L : List Int) : Prop := (∀ c, c ≠ T → c ≠ T + 1 → G c = H c) ∧ FO [0] (H T) (G T) ∧ G T 0 = ((p + L.length : Nat) : Int) ∧ (∀ j, j < p → G (T + 1) j = H (T + 1) j) ∧ At (G (T + 1)) p L
section Txt
variable {d : Nat} {K : Shp} {H : Mem} {T : Nat} {q : Mem → Prop}
theorem sp_X8_write {p : Nat} {x : Int} (hk : K[T]? = some (8, 3)) (hp : H T 1 = ((T + 1 : Nat) : Int)) (hk1 : K[T + 1]? = some (20, 110)) (h0 : H T 0 = (p : Int)) (hp2 : p < 110) (hq : ∀ H', (∀ c, c ≠ T → c ≠ T + 1 → H' c = H c) → H' T = up1 (H T) 0 ((p + 1 : Nat) : Int) → H' (T + 1) = up1 (H (T + 1)) p x → q H') : Cv mX8_write d [(2, (T : Int)), (0, x)] K H q := by
  refine eX8_write fun _ _ => bX8_write_0 ?_
  simp only [Int.toNat_natCast, Option.some.injEq, Prod.mk.injEq, true_and, and_true, exists_eq_left', hk, h0, hp, hk1]
  refine ⟨by omega, fun z => absurd (by omega) z, fun _ => ⟨by omega, by omega, by omega, fun H1 e1 => ?_⟩⟩
  have m1 : H1 T = H T := by rw [e1, upA_ne (by omega)]
  rw [m1, h0]
  refine ⟨⟨by omega, by omega⟩, fun H2 e2 => hq H2 (fun c c0 c1 => by rw [e2, upA_ne c0, e1, upA_ne c1]) (by rw [e2, upA_same]; rfl) (by rw [e2, upA_ne (by omega), e1, upA_same])⟩
theorem WSt.write {G G' : Mem} {p : Nat} {L : List Int} {x : Int} (h : WSt H G T p L) (a1 : ∀ c, c ≠ T → c ≠ T + 1 → G' c = G c) (a2 : G' T = up1 (G T) 0 ((p + L.length + 1 : Nat) : Int)) (a3 : G' (T + 1) = up1 (G (T + 1)) (p + L.length) x) : WSt H G' T p (L ++ [x]) := by
  obtain ⟨h1, h2, h3, h4, h5⟩ := h
  refine ⟨fun c c0 c1 => (a1 c c0 c1).trans (h1 c c0 c1), by rw [a2]; exact h2.same (FO.up rfl), by rw [a2, up1_same]; simp; omega, fun j hj => by rw [a3, up1_ne (by omega), h4 j hj], by rw [a3]; exact h5.snoc⟩
theorem decR_step {u f : Nat} (hf : f < 10) (h : 0 < 10 * u + f) : (decR (10 * u + f)).reverse = (decR u).reverse ++ [48 + (f : Int)] := by
  rw [decR_pos h, show (10 * u + f) % 10 = f by omega, show (10 * u + f) / 10 = u by omega]
  simp
def nzI (u : Nat) : Int := if u = 0 then 0 else 1
theorem ww_step {G : Mem} {w p i u f : Nat} {ten ten' D : Int} (hk : K[T]? = some (8, 3)) (hp : H T 1 = ((T + 1 : Nat) : Int)) (hk1 : K[T + 1]? = some (20, 110)) (hw : WhK K H w) (hw1 : w ≠ T ∧ w ≠ T + 1 ∧ w + 1 ≠ T ∧ w + 1 ≠ T + 1) (hi : i < 6) (hD : H (w + 1) i = D) (D0 : 0 ≤ D) (D1 : D < 1000000000) (t0 : 0 < ten) (t1 : ten ≤ 100000000) (ht' : Int.tdiv ten 10 = ten') (hf : D / ten % 10 = (f : Int)) (hf10 : f < 10) (hlen : p + (decR (10 * u + f)).length ≤ 110)
    (st : WSt H G T p (decR u).reverse) (nl : ¬ ((i : Int) = 0 ∧ ten = 1)) (nx : ∀ G', WSt H G' T p (decR (10 * u + f)).reverse → FX8_writeWhole_13 d K G' q (T : Int) (w : Int) (nzI (10 * u + f)) (i : Int) ten') : FX8_writeWhole_13 d K G q (T : Int) (w : Int) (nzI u) (i : Int) ten := by
  have st' := st
  obtain ⟨s1, s2, s3, s4, s5⟩ := st'
  have gw : G w = H w := s1 w hw1.1 hw1.2.1
  have gw1 : G (w + 1) = H (w + 1) := s1 (w + 1) hw1.2.2.1 hw1.2.2.2
  have e1 : Int.tdiv D ten = D / ten := tdiv_pos D0
  have q0 := Int.ediv_nonneg D0 (Int.le_of_lt t0)
  have q1 := Int.ediv_le_self ten D0
  have e2 : Int.tmod (D / ten) 10 = (f : Int) := by rw [tmod_pos q0]; exact hf
  have ti : inL (Int.tdiv ten 10) := by
    rw [tdiv_pos (by omega)]
    exact ⟨by omega, by omega⟩
  rw [ht'] at ti
  have wr : 0 < 10 * u + f → Cv mX8_write d [(2, (T : Int)), (0, 48 + (f : Int))] K G (fun H21 => inL ten' ∧ FX8_writeWhole_13 d K H21 q (T : Int) (w : Int) 1 (i : Int) ten') := by
    intro hpos
    have hl1 : (decR (10 * u + f)).length = (decR u).length + 1 := by
      have := congrArg List.length (decR_step (u := u) hf10 hpos)
      simp at this
      omega
    refine sp_X8_write (p := p + (decR u).reverse.length) hk (by rw [s2 1 rfl]; exact hp) hk1 s3 (by simp; omega) ?_
    intro G' a1 a2 a3
    have := nx G' (by rw [decR_step hf10 hpos]; exact st.write a1 a2 a3)
    have en : nzI (10 * u + f) = 1 := by unfold nzI; rw [if_neg (by omega)]
    rw [en] at this
    exact ⟨ti, this⟩
  refine bX8_writeWhole_13 ⟨fun z => absurd z (by omega), fun _ => ?_⟩
  simp only [Int.toNat_natCast, Option.some.injEq, Prod.mk.injEq, true_and, and_true, exists_eq_left', hw.1, gw, hw.2.2, hw.2.1, gw1, hD, e1, e2, hk, ht']
  refine ⟨by omega, by omega, by omega, by omega, by omega, ⟨by omega, by omega⟩, ⟨by omega, by omega⟩, fun z => ⟨⟨by omega, by omega⟩, ⟨by omega, by omega⟩, by omega, by omega, by omega, wr ?_⟩, fun z => ⟨fun z2 => ⟨⟨by omega, by omega⟩, ⟨by omega, by omega⟩, by omega, by omega, by omega, wr (by omega)⟩, fun z2 => ?_⟩⟩
  · have : u ≠ 0 := fun h => z (by unfold nzI; rw [if_pos h])
    omega
  · have hu : u = 0 := by
      rcases Nat.eq_zero_or_pos u with h | h
      · exact h
      · unfold nzI at z; rw [if_neg (by omega)] at z; exact absurd z (by decide)
    have hf0 : f = 0 := by omega
    subst hu
    subst hf0
    have := nx G st
    exact ⟨fun _ => ⟨ti, this⟩, fun z3 => ⟨fun _ => ⟨ti, this⟩, fun z4 => absurd ⟨z3, z4⟩ nl⟩⟩
theorem ww_last {G : Mem} {w p u f : Nat} {D : Int} (hk : K[T]? = some (8, 3)) (hp : H T 1 = ((T + 1 : Nat) : Int)) (hk1 : K[T + 1]? = some (20, 110)) (hw : WhK K H w) (hw1 : w ≠ T ∧ w ≠ T + 1 ∧ w + 1 ≠ T ∧ w + 1 ≠ T + 1) (hD : H (w + 1) 0 = D) (D0 : 0 ≤ D) (D1 : D < 1000000000) (hf : D / 1 % 10 = (f : Int)) (hf10 : f < 10) (hlen : p + (decL (10 * u + f)).length ≤ 110)
    (st : WSt H G T p (decR u).reverse) (nx : ∀ G', WSt H G' T p (decL (10 * u + f)) → q G') : FX8_writeWhole_13 d K G q (T : Int) (w : Int) (nzI u) 0 1 := by
  have st' := st
  obtain ⟨s1, s2, s3, s4, s5⟩ := st'
  have gw : G w = H w := s1 w hw1.1 hw1.2.1
  have gw1 : G (w + 1) = H (w + 1) := s1 (w + 1) hw1.2.2.1 hw1.2.2.2
  have e1 : Int.tdiv D 1 = D / 1 := tdiv_pos D0
  have e2 : Int.tmod (D / 1) 10 = (f : Int) := by rw [tmod_pos (by omega)]; exact hf
  have e3 : Int.tdiv (1 : Int) 10 = 0 := by decide
  have eL : decL (10 * u + f) = (decR u).reverse ++ [48 + (f : Int)] := by
    unfold decL
    by_cases z : 10 * u + f = 0
    · have hu : u = 0 := by omega
      have hf0 : f = 0 := by omega
      rw [if_pos z, hu, hf0, decR_0]; rfl
    · rw [if_neg z, decR_step hf10 (by omega)]
  have hl1 : (decL (10 * u + f)).length = (decR u).length + 1 := by rw [eL]; simp
  have wr : Cv mX8_write d [(2, (T : Int)), (0, 48 + (f : Int))] K G (fun H21 => inL 0 ∧ FX8_writeWhole_13 d K H21 q (T : Int) (w : Int) 1 0 0) := by
    refine sp_X8_write (p := p + (decR u).reverse.length) hk (by rw [s2 1 rfl]; exact hp) hk1 s3 (by simp; omega) ?_
    intro G' a1 a2 a3
    refine ⟨⟨by omega, by omega⟩, bX8_writeWhole_13 ⟨fun _ => ⟨⟨by omega, by omega⟩, bX8_writeWhole_4 ⟨fun _ => nx G' (by rw [eL]; exact st.write a1 a2 a3), fun z => absurd (by omega) z⟩⟩, fun z => absurd (by omega) z⟩⟩
  refine bX8_writeWhole_13 ⟨fun z => absurd z (by omega), fun _ => ?_⟩
  have i0 : (0 : Int).toNat = 0 := rfl
  simp only [Int.toNat_natCast, Option.some.injEq, Prod.mk.injEq, true_and, and_true, exists_eq_left', hw.1, gw, hw.2.2, hw.2.1, gw1, i0, hD, e1, e2, hk, e3]
  refine ⟨by omega, by omega, by omega, by omega, by omega, ⟨by omega, by omega⟩, ⟨by omega, by omega⟩, fun z => ⟨⟨by omega, by omega⟩, ⟨by omega, by omega⟩, by omega, by omega, by omega, wr⟩, fun z => ⟨fun z2 => ⟨⟨by omega, by omega⟩, ⟨by omega, by omega⟩, by omega, by omega, by omega, wr⟩, fun z2 => ⟨fun z3 => absurd (by trivial) z3, fun z3 => ⟨fun z4 => absurd (by trivial) z4, fun z4 => ⟨⟨by omega, by omega⟩, ⟨by omega, by omega⟩, by omega, by omega, by omega, wr⟩⟩⟩⟩⟩
theorem decR_mono {a b : Nat} : a ≤ b → (decR a).length ≤ (decR b).length := by
  induction b using Nat.strongRecOn generalizing a with
  | _ b ih =>
    intro h
    rcases Nat.eq_zero_or_pos a with z | z
    · rw [z, decR_0]; simp
    · rw [decR_pos z, decR_pos (v := b) (by omega)]
      have := ih (b / 10) (by omega) (a := a / 10) (by omega)
      simp only [List.length_cons]
      omega
theorem decR_decL (v : Nat) : (decR v).length ≤ (decL v).length := by
  unfold decL
  by_cases z : v = 0
  · rw [if_pos z, z, decR_0]; simp
  · rw [if_neg z]; simp
theorem dg_e8 (X n : Nat) (h : n < 1000000000) : 10 * X + (n / 100000000 % 10) = (X * 10 + n / 100000000) := by omega
theorem dg_l8 (X n : Nat) : (X * 10 + n / 100000000) ≤ X * 1000000000 + n := by omega
theorem dg_e7 (X n : Nat) : 10 * (X * 10 + n / 100000000) + (n / 10000000 % 10) = (X * 100 + n / 10000000) := by omega
theorem dg_l7 (X n : Nat) : (X * 100 + n / 10000000) ≤ X * 1000000000 + n := by omega
theorem dg_e6 (X n : Nat) : 10 * (X * 100 + n / 10000000) + (n / 1000000 % 10) = (X * 1000 + n / 1000000) := by omega
theorem dg_l6 (X n : Nat) : (X * 1000 + n / 1000000) ≤ X * 1000000000 + n := by omega
theorem dg_e5 (X n : Nat) : 10 * (X * 1000 + n / 1000000) + (n / 100000 % 10) = (X * 10000 + n / 100000) := by omega
theorem dg_l5 (X n : Nat) : (X * 10000 + n / 100000) ≤ X * 1000000000 + n := by omega
theorem dg_e4 (X n : Nat) : 10 * (X * 10000 + n / 100000) + (n / 10000 % 10) = (X * 100000 + n / 10000) := by omega
theorem dg_l4 (X n : Nat) : (X * 100000 + n / 10000) ≤ X * 1000000000 + n := by omega
theorem dg_e3 (X n : Nat) : 10 * (X * 100000 + n / 10000) + (n / 1000 % 10) = (X * 1000000 + n / 1000) := by omega
theorem dg_l3 (X n : Nat) : (X * 1000000 + n / 1000) ≤ X * 1000000000 + n := by omega
theorem dg_e2 (X n : Nat) : 10 * (X * 1000000 + n / 1000) + (n / 100 % 10) = (X * 10000000 + n / 100) := by omega
theorem dg_l2 (X n : Nat) : (X * 10000000 + n / 100) ≤ X * 1000000000 + n := by omega
theorem dg_e1 (X n : Nat) : 10 * (X * 10000000 + n / 100) + (n / 10 % 10) = (X * 100000000 + n / 10) := by omega
theorem dg_l1 (X n : Nat) : (X * 100000000 + n / 10) ≤ X * 1000000000 + n := by omega
theorem dg_e0 (X n : Nat) : 10 * (X * 100000000 + n / 10) + (n % 10) = (X * 1000000000 + n) := by omega
/-- one digit of a thousand million -/
theorem ww_digit {G : Mem} {w p i X : Nat} {D : Int} (hk : K[T]? = some (8, 3)) (hp : H T 1 = ((T + 1 : Nat) : Int)) (hk1 : K[T + 1]? = some (20, 110)) (hw : WhK K H w) (hw1 : w ≠ T ∧ w ≠ T + 1 ∧ w + 1 ≠ T ∧ w + 1 ≠ T + 1) (hi : i < 6) (hD : H (w + 1) i = D) (D0 : 0 ≤ D) (D1 : D < 1000000000)
    (st : WSt H G T p (decR X).reverse) (hlen : p + (decL (X * 1000000000 + D.toNat)).length ≤ 110) (nx : 0 < i → ∀ G', WSt H G' T p (decR (X * 1000000000 + D.toNat)).reverse → FX8_writeWhole_4 d K G' q (T : Int) (w : Int) (nzI (X * 1000000000 + D.toNat)) ((i : Int) - 1)) (fin : i = 0 → ∀ G', WSt H G' T p (decL (X * 1000000000 + D.toNat)) → q G') : FX8_writeWhole_13 d K G q (T : Int) (w : Int) (nzI X) (i : Int) 100000000 := by
  have hl2 := decR_decL (X * 1000000000 + D.toNat)
  have le : ∀ u : Nat, u ≤ X * 1000000000 + D.toNat → p + (decR u).length ≤ 110 := fun u hu => by have := decR_mono hu; omega
  have hfd : ∀ ten : Nat, 0 < ten → D / (ten : Int) % 10 = ((D.toNat / ten % 10 : Nat) : Int) := fun ten h => by
    have e : D = (D.toNat : Int) := by omega
    rw [Int.natCast_emod, Int.natCast_ediv, ← e]
    rfl
  have nl : ∀ ten : Int, ten ≠ 1 → ¬ ((i : Int) = 0 ∧ ten = 1) := fun ten h z => h z.2
  refine ww_step (u := X) (f := (D.toNat / 100000000 % 10)) (ten' := 10000000) hk hp hk1 hw hw1 hi hD D0 D1 (by decide) (by decide) (by decide) (hfd 100000000 (by decide)) (Nat.mod_lt _ (by decide)) (by rw [dg_e8 X D.toNat (by omega)]; exact le _ (dg_l8 X D.toNat)) st (nl _ (by decide)) ?_
  rw [dg_e8 X D.toNat (by omega)]
  intro G8 st8
  refine ww_step (u := (X * 10 + D.toNat / 100000000)) (f := (D.toNat / 10000000 % 10)) (ten' := 1000000) hk hp hk1 hw hw1 hi hD D0 D1 (by decide) (by decide) (by decide) (hfd 10000000 (by decide)) (Nat.mod_lt _ (by decide)) (by rw [dg_e7 X D.toNat]; exact le _ (dg_l7 X D.toNat)) st8 (nl _ (by decide)) ?_
  rw [dg_e7 X D.toNat]
  intro G7 st7
  refine ww_step (u := (X * 100 + D.toNat / 10000000)) (f := (D.toNat / 1000000 % 10)) (ten' := 100000) hk hp hk1 hw hw1 hi hD D0 D1 (by decide) (by decide) (by decide) (hfd 1000000 (by decide)) (Nat.mod_lt _ (by decide)) (by rw [dg_e6 X D.toNat]; exact le _ (dg_l6 X D.toNat)) st7 (nl _ (by decide)) ?_
  rw [dg_e6 X D.toNat]
  intro G6 st6
  refine ww_step (u := (X * 1000 + D.toNat / 1000000)) (f := (D.toNat / 100000 % 10)) (ten' := 10000) hk hp hk1 hw hw1 hi hD D0 D1 (by decide) (by decide) (by decide) (hfd 100000 (by decide)) (Nat.mod_lt _ (by decide)) (by rw [dg_e5 X D.toNat]; exact le _ (dg_l5 X D.toNat)) st6 (nl _ (by decide)) ?_
  rw [dg_e5 X D.toNat]
  intro G5 st5
  refine ww_step (u := (X * 10000 + D.toNat / 100000)) (f := (D.toNat / 10000 % 10)) (ten' := 1000) hk hp hk1 hw hw1 hi hD D0 D1 (by decide) (by decide) (by decide) (hfd 10000 (by decide)) (Nat.mod_lt _ (by decide)) (by rw [dg_e4 X D.toNat]; exact le _ (dg_l4 X D.toNat)) st5 (nl _ (by decide)) ?_
  rw [dg_e4 X D.toNat]
  intro G4 st4
  refine ww_step (u := (X * 100000 + D.toNat / 10000)) (f := (D.toNat / 1000 % 10)) (ten' := 100) hk hp hk1 hw hw1 hi hD D0 D1 (by decide) (by decide) (by decide) (hfd 1000 (by decide)) (Nat.mod_lt _ (by decide)) (by rw [dg_e3 X D.toNat]; exact le _ (dg_l3 X D.toNat)) st4 (nl _ (by decide)) ?_
  rw [dg_e3 X D.toNat]
  intro G3 st3
  refine ww_step (u := (X * 1000000 + D.toNat / 1000)) (f := (D.toNat / 100 % 10)) (ten' := 10) hk hp hk1 hw hw1 hi hD D0 D1 (by decide) (by decide) (by decide) (hfd 100 (by decide)) (Nat.mod_lt _ (by decide)) (by rw [dg_e2 X D.toNat]; exact le _ (dg_l2 X D.toNat)) st3 (nl _ (by decide)) ?_
  rw [dg_e2 X D.toNat]
  intro G2 st2
  refine ww_step (u := (X * 10000000 + D.toNat / 100)) (f := (D.toNat / 10 % 10)) (ten' := 1) hk hp hk1 hw hw1 hi hD D0 D1 (by decide) (by decide) (by decide) (hfd 10 (by decide)) (Nat.mod_lt _ (by decide)) (by rw [dg_e1 X D.toNat]; exact le _ (dg_l1 X D.toNat)) st2 (nl _ (by decide)) ?_
  rw [dg_e1 X D.toNat]
  intro G1 st1
  have e0 : 10 * (X * 100000000 + D.toNat / 10) + D.toNat % 10 = X * 1000000000 + D.toNat := dg_e0 X D.toNat
  rcases Nat.eq_zero_or_pos i with z | z
  · subst z
    refine ww_last (u := X * 100000000 + D.toNat / 10) (f := D.toNat % 10) hk hp hk1 hw hw1 hD D0 D1 (by omega) (by omega) (by rw [e0]; exact hlen) st1 ?_
    rw [e0]
    exact fin rfl
  · refine ww_step (u := X * 100000000 + D.toNat / 10) (f := D.toNat % 10) (ten' := 0) hk hp hk1 hw hw1 hi hD D0 D1 (by decide) (by decide) (by decide) (by omega) (by omega) (by rw [e0]; exact le _ (by omega)) st1 (fun y => by omega) ?_
    rw [e0]
    intro G0 st0
    refine bX8_writeWhole_13 ⟨fun _ => ⟨⟨by omega, by omega⟩, ?_⟩, fun y => absurd (by omega) y⟩
    rw [show (i : Int) + (-1) = (i : Int) - 1 by omega]
    exact nx z G0 st0
theorem sp_X8_writeWhole {w p : Nat} {v : Int} (hk : K[T]? = some (8, 3)) (hp : H T 1 = ((T + 1 : Nat) : Int)) (hk1 : K[T + 1]? = some (20, 110)) (hw : WhK K H w) (hw1 : w ≠ T ∧ w ≠ T + 1 ∧ w + 1 ≠ T ∧ w + 1 ≠ T + 1) (hv : Dig (H (w + 1)) v) (h0 : H T 0 = (p : Int)) (hlen : p + (decL v.toNat).length ≤ 110) (hq : ∀ H', WSt H H' T p (decL v.toNat) → q H') : Cv mX8_writeWhole (d + 1) [(2, (T : Int)), (2, (w : Int))] K H q := by
  obtain ⟨hg, hval⟩ := hv
  have hx0 : hiv (H (w + 1)) 0 = v := by rw [hiv_0]; exact hval
  have pos : ∀ i, i ≤ 6 → 0 ≤ hiv (H (w + 1)) i := fun i hi => val_nonneg (fun j hj => hg (i + j) (by omega))
  have mono : ∀ i, i ≤ 6 → (hiv (H (w + 1)) i).toNat ≤ v.toNat := by
    intro i
    induction i with
    | zero => intro _; rw [hx0]; omega
    | succ i ih =>
      intro hi
      have h1 := hiv_step (f := H (w + 1)) (i := i) (by omega)
      have h2 := ih (by omega)
      have h3 := pos (i + 1) hi
      have h4 := hg i (by omega)
      omega
  refine eX8_writeWhole fun _ => bX8_writeWhole_0 ?_
  have loop : ∀ (i : Nat), i ≤ 6 → 0 < i → ∀ G, WSt H G T p (decR (hiv (H (w + 1)) i).toNat).reverse → FX8_writeWhole_4 d K G q (T : Int) (w : Int) (nzI (hiv (H (w + 1)) i).toNat) ((i : Int) - 1) := by
    intro i
    induction i with
    | zero => intro _ h; exact absurd h (by omega)
    | succ i ih =>
      intro hi _ G st
      have h1 := hiv_step (f := H (w + 1)) (i := i) (by omega)
      have h3 := pos (i + 1) hi
      have h4 := hg i (by omega)
      have ev : (hiv (H (w + 1)) (i + 1)).toNat * 1000000000 + (H (w + 1) i).toNat = (hiv (H (w + 1)) i).toNat := by omega
      have hm := mono i (by omega)
      rw [show ((i + 1 : Nat) : Int) - 1 = (i : Int) by omega]
      refine bX8_writeWhole_4 ⟨fun z => absurd z (by omega), fun _ => ?_⟩
      refine ww_digit hk hp hk1 hw hw1 (by omega) rfl h4.1 h4.2 st ?_ ?_ ?_
      · rw [ev]
        have y1 : (decL (hiv (H (w + 1)) i).toNat).length ≤ (decL v.toNat).length := by
          unfold decL
          by_cases z : (hiv (H (w + 1)) i).toNat = 0
          · rw [if_pos z]
            by_cases z2 : v.toNat = 0
            · rw [if_pos z2]; simp
            · rw [if_neg z2, decR_pos (by omega)]; simp
          · rw [if_neg z, if_neg (by omega)]
            have := decR_mono hm
            simpa using this
        omega
      · rw [ev]
        intro hi0 G' st'
        exact ih (by omega) hi0 G' st'
      · rw [ev]
        intro hi0 G' st'
        subst hi0
        rw [hx0] at st'
        exact hq G' st'
  have := loop 6 (by omega) (by omega) H (by rw [hiv_6]; simp only [Int.toNat_zero, decR_0]; exact ⟨fun _ _ _ => rfl, FO.rf, by rw [h0]; rfl, fun _ _ => rfl, At.nil⟩)
  rw [hiv_6] at this
  exact this
end Txt
