/-! the reference: gather, timesOf -/
theorem free_one {w a x L : Int} : (x ≤ a → w * ((L - a) * x) = w * min x a * (L - max x a)) ∧ (¬ x ≤ a → w * (a * (L - x)) = w * min x a * (L - max x a)) := by
  constructor
  · intro h; rw [show min x a = x by omega, show max x a = a by omega, Int.mul_comm (L - a) x, Int.mul_assoc]
  · intro h; rw [show min x a = a by omega, show max x a = x by omega, Int.mul_assoc]
section RfT
variable {d : Nat} {K : Shp} {H G : Mem} {X M c : Nat} {nb nr sx ld : Nat → Nat} {q : Mem → Prop}
set_option maxHeartbeats 1000000 in
theorem ga_93 {n : Nat} {x L : Int} (E : RefE K H X M c nb nr sx ld) (hn : n < c) (hL : L = H (X + 54 + 3 * n) 0) (hx : 1 ≤ x ∧ x < L) (hq : ∀ G', RI M H G' → FO [46] (G M) (G' M) → G' M 46 = sumN (freeT L (H (X + 54 + 3 * n + 1)) (H (X + 54 + 3 * n + 2)) x) (ld n) → q G') :
    ∀ m k G1, ld n - k = m → k ≤ ld n → RI M H G1 → FO [46] (G M) (G1 M) → G1 M 46 = sumN (freeT L (H (X + 54 + 3 * n + 1)) (H (X + 54 + 3 * n + 2)) x) k → (0 ≤ G1 M 46 ∧ G1 M 46 ≤ 2500000 * (k : Int)) → FX12_gather_93 d K G1 q (M : Int) (n : Int) x L (k : Int) := by
  obtain ⟨hk, hp0, hs, hc, hsp, -⟩ := E
  obtain ⟨sj, s4, so⟩ := hsp n hn
  have c5 := hc.2.2
  obtain ⟨b1, b2, b3, b4, b5, b6, b7, b8⟩ := so
  intro m
  induction m with
  | zero =>
    intro k G1 hm hkl r o e bd
    have hp := r.p hp0
    have ek : k = ld n := by omega
    refine bX12_gather_93 ?_
    simp only [Int.toNat_natCast, Option.some.injEq, Prod.mk.injEq, true_and, and_true, exists_eq_left', hk.k0, hp.p33, hk.k22, r.1.at 22 rfl, b5]
    refine ⟨by omega, by omega, by omega, by omega, fun _ => hq G1 r o (by rw [ek] at e; exact e), fun g => by omega⟩
  | succ m ih =>
    intro k G1 hm hkl r o e bd
    have hp := r.p hp0
    have e2 : 2 * (n : Int) + (k : Int) = ((2 * n + k : Nat) : Int) := by omega
    obtain ⟨l1, l2, l3, l4⟩ := b8 k (by omega)
    obtain ⟨w, hw⟩ : ∃ w, H (X + 54 + 3 * n + 2) k = w := ⟨_, rfl⟩
    obtain ⟨a, ha⟩ : ∃ a, H (X + 54 + 3 * n + 1) k = a := ⟨_, rfl⟩
    rw [ha] at l1 l3
    rw [hw] at l2 l4
    have nx : ∀ v : Int, v = w * min x a * (L - max x a) → (0 ≤ v ∧ v ≤ 2500000) → ∀ H5, H5 = upA G1 M (up1 (G1 M) 46 ((G1 M 46) + v)) → (inI ((k : Int) + 1)) ∧ FX12_gather_93 d K H5 q (M : Int) (n : Int) x L ((k : Int) + 1) := by
      intro v hv vb H5 e5
      have m5 : H5 M = up1 (G1 M) 46 ((G1 M 46) + v) := by rw [e5, upA_same]
      have n5 : H5 M 46 = G1 M 46 + v := by rw [m5, up1_same]
      refine ⟨⟨by omega, by omega⟩, ih (k + 1) H5 (by omega) (by omega) (by rw [e5]; exact r.put rfl) (by rw [m5]; exact o.same (FO.up rfl)) ?_ (by rw [n5]; omega)⟩
      rw [n5, e]
      show _ = sumN _ k + freeT _ _ _ _ k
      unfold freeT
      rw [ha, hw, hv]
    have fb : 0 ≤ w * min x a * (L - max x a) ∧ w * min x a * (L - max x a) ≤ 2500000 := (free_bd (w := w) (a := min x a) (b := L - max x a) (by omega) (by omega) (by omega) (by omega) (by omega) (by omega)).2
    have f1 := free_one (w := w) (a := a) (x := x) (L := L)
    refine bX12_gather_93 ?_
    simp only [Int.toNat_natCast, Option.some.injEq, Prod.mk.injEq, true_and, and_true, exists_eq_left', hk.k0, hp.p33, hk.k22, r.1.at 22 rfl, b5, e2, hp.p34, hk.k23, r.1.at 23 rfl, hp.p35, hk.k24, r.1.at 24 rfl, l1, l2]
    refine ⟨by omega, by omega, by omega, by omega, fun g => by omega, fun _ => ⟨⟨by omega, by omega⟩, ⟨by omega, by omega⟩, by omega, by omega, by omega, by omega, by omega, fun g => ?_, fun g => ?_⟩⟩
    · have v := f1.2 g
      have p1 := mul_bd (a := a) (b := L - x) (by omega) (show a ≤ 50 by omega) (by omega) (show L - x ≤ 50 by omega)
      exact ⟨⟨by omega, by omega⟩, ⟨by omega, by omega⟩, ⟨by omega, by omega⟩, ⟨by omega, by omega⟩, nx _ v (by omega)⟩
    · have v := f1.1 g
      have p1 := mul_bd (a := L - a) (b := x) (by omega) (show L - a ≤ 50 by omega) (by omega) (show x ≤ 50 by omega)
      exact ⟨⟨by omega, by omega⟩, ⟨by omega, by omega⟩, ⟨by omega, by omega⟩, ⟨by omega, by omega⟩, nx _ v (by omega)⟩
/-- what gather lays into the reference's fields -/
def GaV (H : Mem) (X c : Nat) (nb nr sx : Nat → Nat) (ld n l : Nat) (g : Nat → Int) : Prop :=
  (g 40 = (hgF H X nb nr sx 1 n).1 ∧ g 43 = (hgF H X nb nr sx 1 n).2) ∧ (g 41 = (hogV c (H (X + 23) 0) (H (X + 23) 1) (hgF H X nb nr sx 0) n).1 ∧ g 44 = (hogV c (H (X + 23) 0) (H (X + 23) 1) (hgF H X nb nr sx 0) n).2) ∧ (g 42 = (hogV c (H (X + 23) 0) (H (X + 23) 1) (hgF H X nb nr sx 0) (n + 1)).1 ∧ g 45 = (hogV c (H (X + 23) 0) (H (X + 23) 1) (hgF H X nb nr sx 0) (n + 1)).2) ∧
  g 46 = sumN (freeT (H (X + 54 + 3 * n) 0) (H (X + 54 + 3 * n + 1)) (H (X + 54 + 3 * n + 2)) (H (X + 54 + 3 * n + 1) l)) ld
set_option maxHeartbeats 1000000 in
theorem sp_X12_gather {n l : Nat} (E : RefE K H X M c nb nr sx ld) (r : RI M H G) (ht : ∃ t : Nat, t ≤ 60 ∧ G M 2 = (t : Int)) (hn : n < c) (hl : l < ld n)
    (hq : ∀ G', RI M H G' → (∃ t : Nat, t ≤ 60 ∧ G' M 2 = (t : Int)) → GaV H X c nb nr sx (ld n) n l (G' M) → q G') : Cv mX12_gather (d + 6) [(2, (M : Int)), (0, (n : Int)), (0, (l : Int))] K G q := by
  have E0 := E
  obtain ⟨hk, hp0, hs, hc, hsp, -⟩ := E
  obtain ⟨sj, s4, so⟩ := hsp n hn
  have c5 := hc.2.2
  obtain ⟨b1, b2, b3, b4, b5, b6, b7, b8⟩ := so
  obtain ⟨l1, l2, l3, l4⟩ := b8 l hl
  refine eX12_gather fun _ _ _ => bX12_gather_0 ?_
  simp only [Int.toNat_natCast, Option.some.injEq, Prod.mk.injEq, true_and, and_true, exists_eq_left', hk.k0]
  refine ⟨by omega, sp_X12_strengthOf E0 r hn (by omega) ?_⟩
  intro G1 r1 o1 a1 a2 G2 e2 G3 e3
  have v3 : G3 M = up1 (up1 (G1 M) 40 (G1 M 38)) 43 (G1 M 39) := by rw [e3, upA_same, e2, upA_same, up1_ne (by decide)]
  have r3 : RI M H G3 := by rw [e3]; exact RI.put (by rw [e2]; exact r1.put rfl) rfl
  have t3 : ∃ t : Nat, t ≤ 60 ∧ G3 M 2 = (t : Int) := by rw [v3, up1_ne (by decide), up1_ne (by decide)]; exact o1.top rfl ht
  have x40 : G3 M 40 = (hgF H X nb nr sx 1 n).1 := by rw [v3, up1_ne (by decide), up1_same]; exact a1
  have x43 : G3 M 43 = (hgF H X nb nr sx 1 n).2 := by rw [v3, up1_same]; exact a2
  clear e2 e3 v3 a1 a2 o1
  refine sp_X12_hogOf E0 r3 t3 (by omega) ?_
  intro G4 r4 o4 t4 a3 a4 G5 e5 G6 e6
  have v6 : G6 M = up1 (up1 (G4 M) 41 (G4 M 38)) 44 (G4 M 39) := by rw [e6, upA_same, e5, upA_same, up1_ne (by decide)]
  have r6 : RI M H G6 := by rw [e6]; exact RI.put (by rw [e5]; exact r4.put rfl) rfl
  have t6 : ∃ t : Nat, t ≤ 60 ∧ G6 M 2 = (t : Int) := by rw [v6, up1_ne (by decide), up1_ne (by decide)]; exact t4
  have o6 : FO [2, 19, 20, 21, 22, 38, 39, 41, 44] (G3 M) (G6 M) := by rw [v6]; exact ((o4.wide rfl).same (FO.up rfl)).same (FO.up rfl)
  have x41 : G6 M 41 = (hogV c (H (X + 23) 0) (H (X + 23) 1) (hgF H X nb nr sx 0) n).1 := by rw [v6, up1_ne (by decide), up1_same]; exact a3
  have x44 : G6 M 44 = (hogV c (H (X + 23) 0) (H (X + 23) 1) (hgF H X nb nr sx 0) n).2 := by rw [v6, up1_same]; exact a4
  clear e5 e6 v6 a3 a4 o4
  rw [show (n : Int) + 1 = ((n + 1 : Nat) : Int) by omega]
  refine ⟨⟨by omega, by omega⟩, sp_X12_hogOf E0 r6 t6 (by omega) ?_⟩
  intro G7 r7 o7 t7 a5 a6 G8 e8 G9 e9
  have v9 : G9 M = up1 (up1 (G7 M) 42 (G7 M 38)) 45 (G7 M 39) := by rw [e9, upA_same, e8, upA_same, up1_ne (by decide)]
  have r9 : RI M H G9 := by rw [e9]; exact RI.put (by rw [e8]; exact r7.put rfl) rfl
  have t9 : ∃ t : Nat, t ≤ 60 ∧ G9 M 2 = (t : Int) := by rw [v9, up1_ne (by decide), up1_ne (by decide)]; exact t7
  have o9 : FO [2, 19, 20, 21, 22, 38, 39, 42, 45] (G6 M) (G9 M) := by rw [v9]; exact ((o7.wide rfl).same (FO.up rfl)).same (FO.up rfl)
  have x42 : G9 M 42 = (hogV c (H (X + 23) 0) (H (X + 23) 1) (hgF H X nb nr sx 0) (n + 1)).1 := by rw [v9, up1_ne (by decide), up1_same]; exact a5
  have x45 : G9 M 45 = (hogV c (H (X + 23) 0) (H (X + 23) 1) (hgF H X nb nr sx 0) (n + 1)).2 := by rw [v9, up1_same]; exact a6
  clear e8 e9 v9 a5 a6 o7
  have p9 := r9.p hp0
  have e2 : 2 * (n : Int) + (l : Int) = ((2 * n + l : Nat) : Int) := by omega
  simp only [Int.toNat_natCast, Option.some.injEq, Prod.mk.injEq, true_and, and_true, exists_eq_left', hk.k0, e2, p9.p34, hk.k23, r9.1.at 23 rfl, l1, p9.p31, hk.k20, r9.1.at 20 rfl, b1]
  refine ⟨⟨by omega, by omega⟩, ⟨by omega, by omega⟩, by omega, by omega, by omega, by omega, by omega, by omega, fun G10 e10 => ?_⟩
  have v10 : G10 M = up1 (G9 M) 46 0 := by rw [e10, upA_same]
  refine ga_93 (G := G10) E0 hn rfl l3 ?_ _ 0 G10 rfl (by omega) (by rw [e10]; exact r9.put rfl) FO.rf (by rw [v10, up1_same]; rfl) (by rw [v10, up1_same]; omega)
  intro G' r' o' e'
  have o10 : FO [46] (G9 M) (G10 M) := by rw [v10]; exact FO.up rfl
  have oo := o10.same o'
  refine hq G' r' (oo.top rfl t9) ⟨⟨?_, ?_⟩, ⟨?_, ?_⟩, ⟨?_, ?_⟩, e'⟩
  · rw [oo 40 rfl, o9 40 rfl, o6 40 rfl]; exact x40
  · rw [oo 43 rfl, o9 43 rfl, o6 43 rfl]; exact x43
  · rw [oo 41 rfl, o9 41 rfl]; exact x41
  · rw [oo 44 rfl, o9 44 rfl]; exact x44
  · rw [oo 42 rfl]; exact x42
  · rw [oo 45 rfl]; exact x45
theorem Lg.base {H0 H' : Mem} {T : Nat} {l : List (Nat × Nat × Int)} {k : Nat} {v : Int} (L : Lg M H0 H T l) (hk : k ≠ 2) (e : H' = upA H M (up1 (H M) k v)) : Lg M H' H' T l := by
  obtain ⟨-, -, t, ht, et, h⟩ := L
  refine ⟨FC.rf, FO.rf, t, ht, ?_, fun x hx => ?_⟩
  · rw [e, upA_same, up1_ne (fun g => hk g.symm)]; exact et
  · obtain ⟨n, n1, n2, n3⟩ := h x hx
    exact ⟨n, n1, n2, by rw [e, upA_ne (by omega)]; exact n3⟩
/-- two numbers of the reference and where they lie -/
def UpLow (M T : Nat) (G : Mem) (u w : Int) : Prop := ∃ (a b : Nat), G M 47 = (a : Int) ∧ G M 48 = (b : Int) ∧ Lg M G G T [(b, 12, w), (a, 14, u)]
theorem up_ring {S D T1 C1 T2 C2 L x : Int} : S * L * (C1 * C2) + T1 * (L - x) * (D * C2) + T2 * x * (D * C1) = timT S D T1 C1 T2 C2 L x := by unfold timT; grind
theorem low_ring {D C1 C2 F : Int} : D * (C1 * C2) * F = D * C1 * C2 * F := by rw [Int.mul_assoc D C1 C2]
theorem hog_bd2 (E : RefE K H X M c nb nr sx ld) {k : Nat} (hk : k ≤ c) : (0 < (hogV c (H (X + 23) 0) (H (X + 23) 1) (hgF H X nb nr sx 0) k).2 ∧ (hogV c (H (X + 23) 0) (H (X + 23) 1) (hgF H X nb nr sx 0) k).2 ≤ 80000) ∧ 0 ≤ (hogV c (H (X + 23) 0) (H (X + 23) 1) (hgF H X nb nr sx 0) k).1 ∧ (hogV c (H (X + 23) 0) (H (X + 23) 1) (hgF H X nb nr sx 0) k).1 ≤ 19200000000 :=
  hogV_ind (P := fun x => (0 < x.2 ∧ x.2 ≤ 80000) ∧ 0 ≤ x.1 ∧ x.1 ≤ 19200000000) (by decide) (E.hb 0) E.2.2.2.1.2.1 hk
theorem RefE.sp (E : RefE K H X M c nb nr sx ld) {n : Nat} (hn : n < c) : SpB H X n (ld n) := by
  obtain ⟨-, -, so⟩ := E.2.2.2.2.1 n hn
  obtain ⟨b1, b2, b3, b4, b5, b6, b7, b8⟩ := so
  exact ⟨b6, b7, b2, fun k hk => (b8 k hk).2.2⟩
theorem free_up {n l : Nat} (sp : SpB H X n (ld n)) (hl : l < ld n) : ∀ k, k ≤ ld n → 0 ≤ sumN (freeT (H (X + 54 + 3 * n) 0) (H (X + 54 + 3 * n + 1)) (H (X + 54 + 3 * n + 2)) (H (X + 54 + 3 * n + 1) l)) k ∧ sumN (freeT (H (X + 54 + 3 * n) 0) (H (X + 54 + 3 * n + 1)) (H (X + 54 + 3 * n + 2)) (H (X + 54 + 3 * n + 1) l)) k ≤ 2500000 * (k : Int) := by
  obtain ⟨s1, s2, s3, s4⟩ := sp
  have gl := s4 l hl
  intro k
  induction k with
  | zero => intro _; exact ⟨Int.le_refl 0, by show (0 : Int) ≤ _; omega⟩
  | succ k ih =>
    intro hk
    have i := ih (by omega)
    have g := s4 k (by omega)
    have b := (free_bd (w := H (X + 54 + 3 * n + 2) k) (a := min (H (X + 54 + 3 * n + 1) l) (H (X + 54 + 3 * n + 1) k)) (b := H (X + 54 + 3 * n) 0 - max (H (X + 54 + 3 * n + 1) l) (H (X + 54 + 3 * n + 1) k)) (by omega) (by omega) (by omega) (by omega) (by omega) (by omega)).2
    show 0 ≤ sumN _ k + freeT _ _ _ _ k ∧ sumN _ k + freeT _ _ _ _ k ≤ _
    unfold freeT at *
    omega
set_option maxHeartbeats 2000000 in
theorem sp_X12_timesOf {n l : Nat} (E : RefE K H X M c nb nr sx ld) (r : RI M H G) (ht : ∃ t : Nat, t ≤ 60 ∧ G M 2 = (t : Int)) (hn : n < c) (hl : l < ld n)
    (hq : ∀ G', RI M H G' → UpLow M 400 G' (tV H X c nb nr sx ld n l).1 (tV H X c nb nr sx ld n l).2 → q G') : Cv mX12_timesOf (d + 7) [(2, (M : Int)), (0, (n : Int)), (0, (l : Int))] K G q := by
  have E0 := E
  have bS := E.hb 1 n hn
  have bH1 := hog_bd2 E (k := n) (by omega)
  have bH2 := hog_bd2 E (k := n + 1) (by omega)
  have bF := free_up (E.sp hn) hl (ld n) (Nat.le_refl _)
  obtain ⟨hk, hp0, hs, hc, hsp, -⟩ := E
  obtain ⟨sj, s4, so⟩ := hsp n hn
  have c5 := hc.2.2
  obtain ⟨b1, b2, b3, b4, b5, b6, b7, b8⟩ := so
  obtain ⟨l1, l2, l3, l4⟩ := b8 l hl
  unfold tV timV at hq
  refine eX12_timesOf fun _ _ _ => bX12_timesOf_0 ?_
  simp only [Int.toNat_natCast, Option.some.injEq, Prod.mk.injEq, true_and, and_true, exists_eq_left', hk.k0]
  refine ⟨by omega, sp_X12_gather E0 r ht hn hl ?_⟩
  intro G1 r1 t1 ga
  obtain ⟨⟨x40, x43⟩, ⟨x41, x44⟩, ⟨x42, x45⟩, x46⟩ := ga
  obtain ⟨S, eS⟩ : ∃ S, (hgF H X nb nr sx 1 n).1 = S := ⟨_, rfl⟩
  obtain ⟨D, eD⟩ : ∃ S, (hgF H X nb nr sx 1 n).2 = S := ⟨_, rfl⟩
  obtain ⟨T1, eT1⟩ : ∃ S, (hogV c (H (X + 23) 0) (H (X + 23) 1) (hgF H X nb nr sx 0) n).1 = S := ⟨_, rfl⟩
  obtain ⟨C1, eC1⟩ : ∃ S, (hogV c (H (X + 23) 0) (H (X + 23) 1) (hgF H X nb nr sx 0) n).2 = S := ⟨_, rfl⟩
  obtain ⟨T2, eT2⟩ : ∃ S, (hogV c (H (X + 23) 0) (H (X + 23) 1) (hgF H X nb nr sx 0) (n + 1)).1 = S := ⟨_, rfl⟩
  obtain ⟨C2, eC2⟩ : ∃ S, (hogV c (H (X + 23) 0) (H (X + 23) 1) (hgF H X nb nr sx 0) (n + 1)).2 = S := ⟨_, rfl⟩
  obtain ⟨F, eF⟩ : ∃ S, sumN (freeT (H (X + 54 + 3 * n) 0) (H (X + 54 + 3 * n + 1)) (H (X + 54 + 3 * n + 2)) (H (X + 54 + 3 * n + 1) l)) (ld n) = S := ⟨_, rfl⟩
  obtain ⟨L, eL⟩ : ∃ S, H (X + 54 + 3 * n) 0 = S := ⟨_, rfl⟩
  obtain ⟨x, ex⟩ : ∃ S, H (X + 54 + 3 * n + 1) l = S := ⟨_, rfl⟩
  rw [eS, eD, eT1, eC1, eT2, eC2, eF, eL, ex] at hq
  rw [eS] at x40 bS
  rw [eD] at x43 bS
  rw [eT1] at x41 bH1
  rw [eC1] at x44 bH1
  rw [eT2] at x42 bH2
  rw [eC2] at x45 bH2
  rw [eF] at x46 bF
  rw [eL] at b1 b2 l3
  rw [ex] at l1 l3
  clear eS eD eT1 eC1 eT2 eC2 eF eL ex l2 l4 b3 b4 b5 b6 b8 hs hsp sj E0
  have p1 := r1.p hp0
  have e2 : 2 * (n : Int) + (l : Int) = ((2 * n + l : Nat) : Int) := by omega
  simp only [Int.toNat_natCast, Option.some.injEq, Prod.mk.injEq, true_and, and_true, exists_eq_left', e2, p1.p34, hk.k23, r1.1.at 23 rfl, l1, p1.p31, hk.k20, r1.1.at 20 rfl, b1, x43]
  obtain ⟨t, ht2, et⟩ := t1
  refine ⟨⟨by omega, by omega⟩, ⟨by omega, by omega⟩, by omega, by omega, by omega, by omega, by omega, by omega, ?_⟩
  refine lg_whole hk p1 (Lg.nil (T := 60) et ht2) (by decide) (by omega) fun G2 a2 L2 => ?_
  rw [L2.fo 44 rfl, x44]
  refine lg_whole hk p1 L2 (by decide) (by omega) fun G3 a3 L3 => ?_
  rw [L3.fo 45 rfl, x45]
  refine lg_whole hk p1 L3 (by decide) (by omega) fun G4 a4 L4 => ?_
  rw [L4.fo 40 rfl, x40]
  refine lg_whole hk p1 L4 (by decide) (by omega) fun G5 a5 L5 => ?_
  refine lg_whole hk p1 L5 (by decide) (by omega) fun G6 a6 L6 => ?_
  refine lg_product hk p1 L6 (i := 1) (j := 0) rfl rfl (by decide) fun G7 a7 L7 => ?_
  refine lg_product hk p1 L7 (i := 4) (j := 3) rfl rfl (by decide) fun G8 a8 L8 => ?_
  refine lg_product hk p1 L8 (i := 1) (j := 0) rfl rfl (by decide) fun G9 a9 L9 => ?_
  rw [L9.fo 41 rfl, x41]
  refine lg_whole hk p1 L9 (by decide) (by omega) fun G10 a10 L10 => ?_
  refine ⟨⟨by omega, by omega⟩, ?_⟩
  refine lg_whole hk p1 L10 (by decide) (by omega) fun G11 a11 L11 => ?_
  refine lg_product hk p1 L11 (i := 1) (j := 0) rfl rfl (by decide) fun G12 a12 L12 => ?_
  refine lg_product hk p1 L12 (i := 10) (j := 8) rfl rfl (by decide) fun G13 a13 L13 => ?_
  refine lg_product hk p1 L13 (i := 1) (j := 0) rfl rfl (by decide) fun G14 a14 L14 => ?_
  refine lg_sum hk p1 L14 (i := 5) (j := 0) rfl rfl (by decide) fun G15 a15 L15 => ?_
  rw [L15.fo 42 rfl, x42]
  refine lg_whole hk p1 L15 (by decide) (by omega) fun G16 a16 L16 => ?_
  refine lg_whole hk p1 L16 (by decide) (by omega) fun G17 a17 L17 => ?_
  refine lg_product hk p1 L17 (i := 1) (j := 0) rfl rfl (by decide) fun G18 a18 L18 => ?_
  refine lg_product hk p1 L18 (i := 16) (j := 15) rfl rfl (by decide) fun G19 a19 L19 => ?_
  refine lg_product hk p1 L19 (i := 1) (j := 0) rfl rfl (by decide) fun G20 a20 L20 => ?_
  refine lg_sum hk p1 L20 (i := 5) (j := 0) rfl rfl (by decide) fun G21 a21 L21 H22 e22 => ?_
  have x46' : H22 M 46 = F := by rw [e22, upA_same, up1_ne (by decide), L21.fo 46 rfl]; exact x46
  have r22 : RI M H H22 := by rw [e22]; exact (r1.tr L21.1 L21.2.1 rfl rfl).put rfl
  have y47 : H22 M 47 = (a21 : Int) := by rw [e22, upA_same, up1_same]
  have L22 := L21.base (by decide) e22
  clear e22 L21 L20 L19 L18 L17 L16 L15 L14 L13 L12 L11 L10 L9 L8 L7 L6 L5 L4 L3 L2
  have p2 := r22.p hp0
  refine lg_product hk p2 L22 (i := 18) (j := 17) rfl rfl (by decide) fun G23 a23 L23 => ?_
  refine lg_product hk p2 L23 (i := 20) (j := 0) rfl rfl (by decide) fun G24 a24 L24 => ?_
  rw [L24.fo 46 rfl, x46']
  refine lg_whole hk p2 L24 (by decide) (by omega) fun G25 a25 L25 => ?_
  refine lg_product hk p2 L25 (i := 1) (j := 0) rfl rfl (by decide) fun G26 a26 L26 H27 e27 => ?_
  have L27 := L26.base (by decide) e27
  refine hq H27 (by rw [e27]; exact (r22.tr L26.1 L26.2.1 rfl rfl).put rfl) ⟨a21, a26, ?_, ?_, ?_⟩
  · rw [e27, upA_same, up1_ne (by decide), L26.fo 47 rfl]; exact y47
  · rw [e27, upA_same, up1_same]
  · obtain ⟨f1, f2, t', h1, h2, h3⟩ := L27
    refine ⟨f1, f2, t', Nat.le_trans h1 (by decide), h2, fun e he => ?_⟩
    rcases List.mem_cons.mp he with he | he
    · rw [he, ← low_ring]; exact h3 _ (List.mem_of_getElem? (i := 0) rfl)
    · rcases List.mem_cons.mp he with he | he
      · rw [he, ← up_ring]; exact h3 _ (List.mem_of_getElem? (i := 4) rfl)
      · exact absurd he (by simp)
end RfT
