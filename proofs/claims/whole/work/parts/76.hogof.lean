/-! the reference: strengthOf, hogOf -/
def rfL : List Nat := [2, 19, 20, 21, 22, 38, 39, 40, 41, 42, 43, 44, 45, 46, 47, 48]
/-- G is H but for the reference's own working places -/
def RI (M : Nat) (H G : Mem) : Prop := FC M [0, 1, 14] H G ∧ FO rfL (H M) (G M)
theorem RI.rf {M : Nat} {H : Mem} : RI M H H := ⟨FC.rf, FO.rf⟩
theorem RI.p {M : Nat} {H G : Mem} (h : RI M H G) (hp : RefP (H M) M) : RefP (G M) M := hp.cong rfL rfl h.2
theorem RI.tr {M : Nat} {H G G' : Mem} {l1 l2 : List Nat} (h : RI M H G) (f : FC M l1 G G') (o : FO l2 (G M) (G' M)) (e1 : l1.all (fun k => [0, 1, 14].contains k) = true) (e2 : l2.all (fun k => rfL.contains k) = true) : RI M H G' := ⟨h.1.same (f.wide e1), h.2.same (o.wide e2)⟩
theorem RI.put {M : Nat} {H G : Mem} {k : Nat} {v : Int} (h : RI M H G) (hk : rfL.contains k = true) : RI M H (upA G M (up1 (G M) k v)) := ⟨h.1.same (FC.up0 rfl), h.2.same (by rw [upA_same]; exact FO.up hk)⟩
def RefE (K : Shp) (H : Mem) (X M c : Nat) (nb nr sx ld : Nat → Nat) : Prop := RefS K M ∧ RefP (H M) M ∧ (∀ i, i < 4 → SecOk K H M i (X + 83 + 10 * i) (nb i) (nr i)) ∧ (H M 37 = (c : Int) ∧ 1 ≤ c ∧ c ≤ 5) ∧ (∀ j, j < c → H (M + 21) j = (sx j : Int) ∧ sx j < 4 ∧ SpanOk H X M j (ld j)) ∧ ∀ e, e < 2 → H (M + 25) e = H (X + 23) e ∧ (H (X + 23) e = 0 ∨ H (X + 23) e = 1)
section RfB
variable {d : Nat} {K : Shp} {H G : Mem} {X M c : Nat} {nb nr sx ld : Nat → Nat} {q : Mem → Prop}
theorem RefE.hb (E : RefE K H X M c nb nr sx ld) (hi : Int) : ∀ j, j < c → (0 < (hgF H X nb nr sx hi j).2 ∧ (hgF H X nb nr sx hi j).2 ≤ 80000) ∧ 0 ≤ (hgF H X nb nr sx hi j).1 ∧ (hgF H X nb nr sx hi j).1 ≤ 19200000000 := fun j hj => bendP_bd hi (E.2.2.1 _ (E.2.2.2.2.1 j hj).2.1).1
set_option maxHeartbeats 1000000 in
theorem sp_X12_strengthOf {j : Nat} {hi : Int} (E : RefE K H X M c nb nr sx ld) (r : RI M H G) (hj : j < c) (hh : hi = 0 ∨ hi = 1)
    (hq : ∀ G', RI M H G' → FO [19, 20, 21, 22, 38, 39] (G M) (G' M) → G' M 38 = (hgF H X nb nr sx hi j).1 → G' M 39 = (hgF H X nb nr sx hi j).2 → q G') : Cv mX12_strengthOf (d + 2) [(2, (M : Int)), (0, (j : Int)), (0, hi)] K G q := by
  obtain ⟨hk, hp0, hs, hc, hsp, -⟩ := E
  have hp := r.p hp0
  obtain ⟨sj, s4, -⟩ := hsp j hj
  have c5 := hc.2.2
  obtain ⟨sI, sR, sS⟩ := hs (sx j) s4
  obtain ⟨-, -, -, -, hf, hz, hB, hRo, hS5, -, -⟩ := id sI
  have hfa := fareab hf hB
  have hpb := pull_bd hS5 _ (Nat.le_refl _)
  have hr6 := hRo.1
  have sRG := sR.keep r.1 rfl rfl rfl rfl rfl rfl rfl
  refine eX12_strengthOf fun _ _ _ => bX12_strengthOf_0 ?_
  simp only [Int.toNat_natCast, Option.some.injEq, Prod.mk.injEq, true_and, and_true, exists_eq_left', hk.k0, hp.p32, hk.k21, r.1.at 21 rfl, sj]
  refine ⟨by omega, by omega, by omega, by omega, sp_X12_asTold hk hp s4 sRG.2.2.2.1 hr6 ?_⟩
  intro H3 e3 u3
  obtain ⟨u1, u2, u4⟩ := use_ok hr6 u3 (by rw [r.1.at 13 rfl]; exact sS) hS5
  have hsu : sumN (H3 (M + 14)) (nr (sx j)) = sumN (H (X + 83 + 10 * sx j + 5)) (nr (sx j)) := sumN_congr u4
  obtain ⟨N, D, P, Z, hW⟩ := walk_some (us := H (X + 83 + 10 * sx j + 5)) (z := H (X + 83 + 10 * sx j) 1) (hi := hi) (needs := sumN (H (X + 83 + 10 * sx j + 5)) (nr (sx j))) hf.1 hB hRo (by omega)
  have hbp : hgF H X nb nr sx hi j = (N, D) := bendP_eq hW
  have bd := bend_bd hf hz hB hRo hS5 hW
  refine sp_X12_go hk (by rw [e3.self rfl]; exact hp) s4 (sRG.keep e3 rfl rfl rfl rfl rfl rfl rfl) hf hz hB hRo u1 u2 (by rw [hsu]; omega) (by rw [hsu]; omega) (N := N) (D := D) (P := P) (Z := Z) (by rw [Int.zero_add, hsu, walkR_congr u4]; exact hW) ?_
  intro H4 f4 o4 n4 d4 _ _
  rw [hbp] at hq
  have r4 : RI M H H4 := (r.tr (l2 := []) e3 (by rw [e3.self rfl]; exact FO.rf) rfl rfl).tr f4 o4 rfl rfl
  have o4' : FO [19, 20, 21, 22] (G M) (H4 M) := by rw [e3.self rfl] at o4; exact o4
  rcases hh with e | e
  · rw [e] at n4 ⊢
    have n4' : H4 M 19 = -N := by rw [n4]; unfold sgF; rw [if_pos rfl]; omega
    refine ⟨fun _ => ⟨by rw [n4']; exact ⟨by omega, by omega⟩, fun H5 e5 H6 e6 => ?_⟩, fun g => absurd rfl g⟩
    have v5 : H5 M = up1 (H4 M) 38 (-(H4 M 19)) := by rw [e5, upA_same]
    have v6 : H6 M = up1 (up1 (H4 M) 38 (-(H4 M 19))) 39 (H4 M 20) := by rw [e6, upA_same, v5, up1_ne (by decide)]
    refine hq H6 (by rw [e6]; exact RI.put (by rw [e5]; exact r4.put rfl) rfl) ?_ ?_ ?_
    · rw [v6]; exact ((o4'.wide rfl).same (FO.up rfl)).same (FO.up rfl)
    · rw [v6, up1_ne (by decide), up1_same, n4', Int.neg_neg]
    · rw [v6, up1_same]; exact d4
  · rw [e] at n4 ⊢
    have n4' : H4 M 19 = N := by rw [n4]; unfold sgF; rw [if_neg (by decide)]; omega
    refine ⟨fun g => absurd g (by decide), fun _ H5 e5 H6 e6 => ?_⟩
    have v5 : H5 M = up1 (H4 M) 38 (H4 M 19) := by rw [e5, upA_same]
    have v6 : H6 M = up1 (up1 (H4 M) 38 (H4 M 19)) 39 (H4 M 20) := by rw [e6, upA_same, v5, up1_ne (by decide)]
    refine hq H6 (by rw [e6]; exact RI.put (by rw [e5]; exact r4.put rfl) rfl) ?_ ?_ ?_
    · rw [v6]; exact ((o4'.wide rfl).same (FO.up rfl)).same (FO.up rfl)
    · rw [v6, up1_ne (by decide), up1_same, n4']
    · rw [v6, up1_same]; exact d4
/-- the answers of hogOf -/
def HgQ (K : Shp) (H G : Mem) (X M c : Nat) (nb nr sx : Nat → Nat) (k : Nat) (q : Mem → Prop) : Prop := ∀ G', RI M H G' → FO [2, 19, 20, 21, 22, 38, 39] (G M) (G' M) → (∃ t : Nat, t ≤ 60 ∧ G' M 2 = (t : Int)) → G' M 38 = (hogV c (H (X + 23) 0) (H (X + 23) 1) (hgF H X nb nr sx 0) k).1 → G' M 39 = (hogV c (H (X + 23) 0) (H (X + 23) 1) (hgF H X nb nr sx 0) k).2 → q G'
theorem FO.top {g g' : Nat → Int} {l : List Nat} (o : FO l g g') (h : l.contains 2 = false) (ht : ∃ t : Nat, t ≤ 60 ∧ g 2 = (t : Int)) : ∃ t : Nat, t ≤ 60 ∧ g' 2 = (t : Int) := by rw [o 2 h]; exact ht
set_option maxHeartbeats 1000000 in
theorem hog_61 {G0 : Mem} {k : Nat} {s0 v2 : Int} (E : RefE K H X M c nb nr sx ld) (r : RI M H G) (o0 : FO [2, 19, 20, 21, 22, 38, 39] (G0 M) (G M)) (ht : ∃ t : Nat, t ≤ 60 ∧ G M 2 = (t : Int)) (hkc : k ≤ c) (hv : v2 = if (k : Int) ≤ 0 then 0 else 1) (hs : s0 = if (k : Int) < (c : Int) then 1 else 0)
    (hno : ¬ (k = 0 ∧ H (X + 23) 0 = 0 ∨ c ≤ k ∧ H (X + 23) 1 = 0)) (hq : HgQ K H G0 X M c nb nr sx k q) : FX12_hogOf_61 (d + 4) K G q (M : Int) (k : Int) v2 s0 := by
  have hk := E.1
  have hc := E.2.2.2.1
  have bd := E.hb 0
  unfold HgQ hogV at hq
  rw [if_neg hno] at hq
  refine bX12_hogOf_61 ?_
  by_cases k0 : k = 0
  · rw [if_pos k0] at hq
    rw [if_pos (by omega)] at hv
    rw [if_pos (by omega)] at hs
    rw [hv, hs, k0]
    refine ⟨fun _ => bX12_hogOf_73 ?_, fun g => absurd rfl g⟩
    simp only [Int.toNat_natCast, Option.some.injEq, Prod.mk.injEq, true_and, and_true, exists_eq_left', hk.k0]
    refine ⟨by omega, fun g => absurd g (by decide), fun _ => sp_X12_strengthOf E r (by omega) (by omega) ?_⟩
    intro G1 r1 o1 a1 b1
    exact bX12_hogOf_95 ⟨fun _ => hq G1 r1 (o0.same (o1.wide rfl)) (o1.top rfl ht) a1 b1, fun g => absurd rfl g⟩
  · rw [if_neg k0] at hq
    rw [if_neg (by omega)] at hv
    rw [hv]
    have ek : (k : Int) - 1 = ((k - 1 : Nat) : Int) := by omega
    simp only [Int.toNat_natCast, Option.some.injEq, Prod.mk.injEq, true_and, and_true, exists_eq_left', hk.k0, ek]
    refine ⟨fun g => absurd g (by decide), fun _ => ⟨⟨by omega, by omega⟩, by omega, sp_X12_strengthOf E r (by omega) (by omega) ?_⟩⟩
    intro G1 r1 o1 a1 b1
    refine bX12_hogOf_73 ?_
    simp only [Int.toNat_natCast, Option.some.injEq, Prod.mk.injEq, true_and, and_true, exists_eq_left', hk.k0]
    by_cases kc : c ≤ k
    · rw [if_pos kc] at hq
      rw [if_neg (by omega)] at hs
      rw [hs]
      refine ⟨by omega, fun _ => bX12_hogOf_95 ⟨fun g => absurd g (by decide), fun _ => ⟨fun _ => hq G1 r1 (o0.same (o1.wide rfl)) (o1.top rfl ht) a1 b1, fun g => absurd rfl g⟩⟩, fun g => absurd rfl g⟩
    · rw [if_neg kc] at hq
      rw [if_pos (by omega)] at hs
      rw [hs]
      refine ⟨by omega, fun g => absurd g (by decide), fun _ => sp_X12_strengthOf E r1 (by omega) (by omega) ?_⟩
      intro G2 r2 o2 a2 b2
      have bl := bd (k - 1) (by omega)
      have br := bd k (by omega)
      refine bX12_hogOf_95 ⟨fun g => absurd g (by decide), fun _ => ⟨fun g => absurd g (by decide), fun _ => ?_⟩⟩
      simp only [Int.toNat_natCast, Option.some.injEq, Prod.mk.injEq, true_and, and_true, exists_eq_left', hk.k0, a1, b1, a2, b2]
      refine ⟨by omega, sp_X12_less3 hk (r2.p E.2.1) (by omega) (by omega) (by omega) (by omega) ?_⟩
      intro G3 f3 o3 t3
      have r3 : RI M H G3 := r2.tr f3 o3 rfl rfl
      have oo : FO [2, 19, 20, 21, 22, 38, 39] (G0 M) (G3 M) := ((o0.same (o1.wide rfl)).same (o2.wide rfl)).same (o3.wide rfl)
      by_cases hl : (hgF H X nb nr sx 0 (k - 1)).1 * (hgF H X nb nr sx 0 k).2 < (hgF H X nb nr sx 0 k).1 * (hgF H X nb nr sx 0 (k - 1)).2
      · rw [if_pos hl] at hq ⊢
        refine ⟨fun g => absurd g (by decide), fun _ H5 e5 H6 e6 => ?_⟩
        have v6 : H6 M = up1 (up1 (G3 M) 38 (hgF H X nb nr sx 0 (k - 1)).1) 39 (hgF H X nb nr sx 0 (k - 1)).2 := by rw [e6, upA_same, e5, upA_same]
        refine hq H6 (by rw [e6]; exact RI.put (by rw [e5]; exact r3.put rfl) rfl) ?_ ?_ ?_ ?_
        · rw [v6]; exact (oo.same (FO.up rfl)).same (FO.up rfl)
        · rw [v6, up1_ne (by decide), up1_ne (by decide)]; exact t3
        · rw [v6, up1_ne (by decide), up1_same]
        · rw [v6, up1_same]
      · rw [if_neg hl] at hq ⊢
        exact ⟨fun _ => hq G3 r3 oo t3 (by rw [o3 38 rfl]; exact a2) (by rw [o3 39 rfl]; exact b2), fun g => absurd rfl g⟩
set_option maxHeartbeats 1000000 in
theorem sp_X12_hogOf {k : Nat} (E : RefE K H X M c nb nr sx ld) (r : RI M H G) (ht : ∃ t : Nat, t ≤ 60 ∧ G M 2 = (t : Int)) (hkc : k ≤ c) (hq : HgQ K H G X M c nb nr sx k q) : Cv mX12_hogOf (d + 5) [(2, (M : Int)), (0, (k : Int))] K G q := by
  have hk := E.1
  have hc := E.2.2.2.1
  have he := E.2.2.2.2.2
  refine eX12_hogOf fun _ _ => bX12_hogOf_0 ?_
  simp only [Int.toNat_natCast, Option.some.injEq, Prod.mk.injEq, true_and, and_true, exists_eq_left', hk.k0]
  refine ⟨by omega, fun H3 e3 H4 e4 => ?_⟩
  have v4 : H4 M = up1 (up1 (G M) 38 0) 39 1 := by rw [e4, upA_same, e3, upA_same]
  have r4 : RI M H H4 := by rw [e4]; exact RI.put (by rw [e3]; exact r.put rfl) rfl
  have o4 : FO [2, 19, 20, 21, 22, 38, 39] (G M) (H4 M) := by rw [v4]; exact (FO.up rfl : FO [2, 19, 20, 21, 22, 38, 39] (G M) _).same (FO.up rfl)
  have t4 : ∃ t : Nat, t ≤ 60 ∧ H4 M 2 = (t : Int) := by rw [v4, up1_ne (by decide), up1_ne (by decide)]; exact ht
  have p4 := r4.p E.2.1
  have c37 : H4 M 37 = (c : Int) := (r4.2 37 rfl).trans hc.1
  have z0 : H4 (M + 25) 0 = H (X + 23) 0 := by rw [r4.1.at 25 rfl]; exact (he 0 (by omega)).1
  have z1 : H4 (M + 25) 1 = H (X + 23) 1 := by rw [r4.1.at 25 rfl]; exact (he 1 (by omega)).1
  clear e3 e4
  have qno : (k = 0 ∧ H (X + 23) 0 = 0 ∨ c ≤ k ∧ H (X + 23) 1 = 0) → q H4 := fun hy => by
    unfold HgQ hogV at hq
    rw [if_pos hy] at hq
    exact hq H4 r4 o4 t4 (by rw [v4, up1_ne (by decide), up1_same]) (by rw [v4, up1_same])
  have go : ∀ v2 s0 : Int, v2 = (if (k : Int) ≤ 0 then 0 else 1) → s0 = (if (k : Int) < (c : Int) then 1 else 0) → FX12_hogOf_33 (d + 4) K H4 q (M : Int) (k : Int) v2 s0 := by
    intro v2 s0 hv hs
    refine bX12_hogOf_33 ?_
    simp only [Int.toNat_natCast, Option.some.injEq, Prod.mk.injEq, true_and, and_true, exists_eq_left', hk.k0, p4.p36, hk.k25, Int.toNat_zero, Int.toNat_one, z0, z1]
    have g61 := hog_61 (d := d) (q := q) E r4 o4 t4 hkc hv hs
    by_cases k0 : k = 0
    · rw [if_pos (by omega)] at hv
      refine ⟨fun g => absurd hv g, fun _ => ⟨by omega, by omega, by omega, fun g => qno (Or.inl ⟨k0, g⟩), fun g => ⟨fun _ => g61 (by omega) hq, fun gs => ?_⟩⟩⟩
      rw [if_pos (by omega)] at hs
      omega
    · rw [if_neg (by omega)] at hv
      refine ⟨fun _ => ⟨fun gs => ?_, fun gs => ⟨by omega, by omega, by omega, fun g => g61 (by omega) hq, fun g => qno (Or.inr ⟨?_, g⟩)⟩⟩, fun g => by omega⟩
      · by_cases kc : (k : Int) < (c : Int)
        · exact g61 (by omega) hq
        · rw [if_neg kc] at hs; exact absurd hs gs
      · by_cases kc : (k : Int) < (c : Int)
        · rw [if_pos kc] at hs; omega
        · omega
  have g19 : ∀ v2 : Int, v2 = (if (k : Int) ≤ 0 then 0 else 1) → FX12_hogOf_19 (d + 4) K H4 q (M : Int) (k : Int) v2 := by
    intro v2 hv
    refine bX12_hogOf_19 ?_
    simp only [Int.toNat_natCast, Option.some.injEq, Prod.mk.injEq, true_and, and_true, exists_eq_left', hk.k0, c37]
    refine ⟨by omega, fun g => ?_, fun g => ?_⟩
    · exact go v2 0 hv (by rw [if_neg g])
    · exact go v2 1 hv (by rw [if_pos g])
  exact ⟨fun g => g19 0 (by rw [if_pos g]), fun g => g19 1 (by rw [if_neg g])⟩
end RfB
