/-! divide, divided, put, common -/
section Com
variable {d : Nat} {K : Shp} {H : Mem} {M : Nat}
theorem sp_X12_divide {q : Mem → Prop} {a b n m : Nat} {v w : Int} (hk : RefS K M) (hp : RefP (H M) M) (ha : a + n < 20000) (hb : b + m < 20000) (hn : n ≤ 98) (hv : BN (H (M + 1)) a n v) (hw : BN (H (M + 1)) b m w) (hw0 : w ≠ 0) (hq : ∀ H', DivOut M H H' n m v w → q H') : Cv mX12_divide (d + 2) [(2, (M : Int)), (0, (a : Int)), (0, (b : Int))] K H q := by
  have hwa : 0 < (w.natAbs : Int) := by omega
  have hm0 : 0 < m := by have := hw.zero; omega
  refine eX12_divide fun _ _ _ => bX12_divide_0 ?_
  simp only [Int.toNat_natCast, Option.some.injEq, Prod.mk.injEq, true_and, and_true, exists_eq_left', hk.k0]
  refine ⟨by omega, sp_X12_places hk hp ha hv (sp_X12_places hk hp hb hw ?_)⟩
  have loop : ∀ (r k : Nat), k + r = n → ∀ G : Mem, FC M [2] H G → (∀ j, j < k → G (M + 2) j = dgs (H (M + 1)) a j) → FX12_divide_16 (d + 1) K G q (M : Int) (a : Int) (b : Int) (n : Int) (m : Int) (k : Int) := by
    intro r
    induction r with
    | zero =>
      intro k hkr G g1 g2
      have ek : k = n := by omega
      subst ek
      have gM := g1.self rfl
      refine bX12_divide_16 ⟨fun _ => ?_, fun z => absurd z (by omega)⟩
      simp only [Int.toNat_natCast, Option.some.injEq, Prod.mk.injEq, true_and, and_true, exists_eq_left', hk.k0]
      refine ⟨by omega, fun H4 e4 H5 e5 => ?_⟩
      have m5 : H5 M = up1 (up1 (H M) 6 (k : Int)) 7 0 := by rw [e5, upA_same, e4, upA_same, gM]
      have o : ∀ j, 0 < j → H5 (M + j) = G (M + j) := fun j hj => by rw [e5, upA_ne (by omega), e4, upA_ne (by omega)]
      have f5 : FC M [0, 2] H H5 := by
        intro x hx
        have z0 := hx 0 rfl
        rw [e5, upA_ne (by omega), e4, upA_ne (by omega), g1 x (fun j hj => hx j (by simp at hj ⊢; omega))]
      have p5 : FO [6, 7] (H M) (H5 M) := by rw [m5]; exact (FO.up rfl).same (FO.up rfl)
      have d5 : ∀ j, j < k → H5 (M + 2) j = dgs (H (M + 1)) a j := fun j hj => by rw [o 2 (by omega)]; exact g2 j hj
      have h1 : H5 (M + 1) = H (M + 1) := f5.at 1 rfl
      have hp5 : RefP (H5 M) M := hp.cong _ rfl p5
      refine sp_X12_compareSizes hk hp5 ha hb (by rw [h1]; exact hv) (by rw [h1]; exact hw) ⟨fun hge => ⟨fun hm1 => ?_, fun hm1 => ?_⟩, fun hlt => ?_⟩
      · have hle : w.natAbs ≤ v.natAbs := by
          rcases sign_cases ((v.natAbs : Int) - (w.natAbs : Int)) with z | z | z <;> omega
        have hmn : m ≤ k := by
          have l1 := vB_lt hv.1
          rw [hv.2.2.1] at l1
          exact hw.len (by omega)
        have htop := hw.2.1.resolve_left (by omega)
        have t0 := hw.1 (m - 1) (by omega)
        have et : dgs (H (M + 1)) b (m - 1) = H (M + 1) (b + m) := by unfold dgs; rw [show b + 1 + (m - 1) = b + m by omega]
        rw [et] at t0
        have ib : ((b : Int) + (m : Int)).toNat = b + m := by omega
        have shf : ∀ (r s : Nat), s + r = 29 → H (M + 1) (b + m) * ((2 ^ s : Nat) : Int) < 1073741824 → FX12_divide_88 (d + 1) K H5 q (M : Int) (b : Int) (k : Int) (m : Int) (s : Int) := by
          have goe : ∀ s : Nat, s ≤ 29 → H (M + 1) (b + m) * ((2 ^ s : Nat) : Int) < 1073741824 → 536870912 ≤ H (M + 1) (b + m) * ((2 ^ s : Nat) : Int) → FX12_divide_114 (d + 1) K H5 q (M : Int) (b : Int) (k : Int) (m : Int) (s : Int) 0 := fun s hs h3 h4 => div_shl (P := ((2 ^ s : Nat) : Int)) (R := ((2 ^ (30 - s) : Nat) : Int)) hk hp ⟨hs, rfl, rfl⟩ (by omega) hmn hn ha hb hv hw h3 h4 hq H5 f5 p5 d5
          intro r
          induction r with
          | zero =>
            intro s hs hlt2
            have es : s = 29 := by omega
            subst es
            have e29 : ((2 ^ 29 : Nat) : Int) = 536870912 := by decide
            have hge2 : 536870912 ≤ H (M + 1) (b + m) * ((2 ^ 29 : Nat) : Int) := by rw [e29]; omega
            refine bX12_divide_88 ?_
            simp only [Int.toNat_natCast, Option.some.injEq, Prod.mk.injEq, true_and, and_true, exists_eq_left', hk.k0, p5 1 rfl, hp.p1, hk.k1, h1, ib]
            rw [bm_small (by omega) (by omega)]
            exact ⟨by omega, ⟨by omega, by omega⟩, by omega, by omega, by omega, by omega, by omega, fun _ => goe 29 (by omega) hlt2 hge2, fun z => absurd z (by omega)⟩
          | succ r ih =>
            intro s hs hlt2
            have tn : 0 ≤ H (M + 1) (b + m) * ((2 ^ s : Nat) : Int) := Int.mul_nonneg (by omega) (Int.natCast_nonneg _)
            refine bX12_divide_88 ?_
            simp only [Int.toNat_natCast, Option.some.injEq, Prod.mk.injEq, true_and, and_true, exists_eq_left', hk.k0, p5 1 rfl, hp.p1, hk.k1, h1, ib]
            rw [bm_small (by omega) (by omega)]
            refine ⟨by omega, ⟨by omega, by omega⟩, by omega, by omega, by omega, by omega, by omega, fun z => goe s (by omega) hlt2 (by omega), fun z => ⟨⟨by omega, by omega⟩, ih (s + 1) (by omega) ?_⟩⟩
            rw [pw_nat, ← Int.mul_assoc, Int.mul_comm _ 2, Int.mul_assoc]
            omega
        exact shf 29 0 (by omega) (by simp; omega)
      · have em : m = 1 := by omega
        subst em
        have hd0 := hw.1 0 (by omega)
        have hval : dgs (H (M + 1)) b 0 = (w.natAbs : Int) := by
          have := hw.2.2.1
          simp [vB] at this
          omega
        have hle : w.natAbs ≤ v.natAbs := by
          rcases sign_cases ((v.natAbs : Int) - (w.natAbs : Int)) with z | z | z <;> omega
        have hk1 : 0 < k := by have := hv.zero; omega
        have i1 : ((b : Int) + 1).toNat = b + 1 := by omega
        have eb : H (M + 1) (b + 1) = dgs (H (M + 1)) b 0 := rfl
        simp only [Int.toNat_natCast, Option.some.injEq, Prod.mk.injEq, true_and, and_true, exists_eq_left', p5 1 rfl, hp.p1, hk.k1, h1, i1, eb, hval]
        rw [hval] at hd0
        refine ⟨⟨by omega, by omega⟩, by omega, by omega, by omega, ?_⟩
        have hV : vB (H5 (M + 2)) k = (v.natAbs : Int) := by rw [vB_congr d5]; exact hv.2.2.1
        refine sp_X12_divideShort (n := k) hk hp5 (by rw [m5, up1_ne (by decide), up1_same]) hk1 (by omega) (fun j hj => by rw [d5 j hj]; exact hv.1 j hj) hwa (by omega) ?_
        intro H' qn c1 c2 c3 c4 c5 c6 c7 c8 c9
        rw [hV] at c3 c4 c8
        have r0 := Int.emod_nonneg (v.natAbs : Int) (show (w.natAbs : Int) ≠ 0 by omega)
        have r1 := Int.emod_lt_of_pos (v.natAbs : Int) hwa
        refine hq H' ⟨f5.tr c1 rfl rfl, p5.same c2, if (v.natAbs : Int) % (w.natAbs : Int) = 0 then 0 else 1, qn, ?_, c5, ?_, ?_, ?_, c6, c7, c8, ?_, c9⟩
        · rw [c3]; split <;> rfl
        · intro j hj
          have ej : j = 0 := by split at hj <;> omega
          rw [ej, c4]; omega
        · by_cases z : (v.natAbs : Int) % (w.natAbs : Int) = 0
          · rw [if_pos z]; exact Or.inl rfl
          · rw [if_neg z]; right; rw [c4]; exact z
        · by_cases z : (v.natAbs : Int) % (w.natAbs : Int) = 0
          · rw [if_pos z, z]; rfl
          · rw [if_neg z]; simp [vB]; rw [c4]
        · split <;> omega
      · have hlt2 : v.natAbs < w.natAbs := by
          rcases sign_cases ((v.natAbs : Int) - (w.natAbs : Int)) with z | z | z <;> omega
        have hnm : k ≤ m := by
          have l1 := vB_lt hw.1
          rw [hw.2.2.1] at l1
          exact hv.len (by omega)
        refine hq H5 ⟨f5.wide rfl, p5, k, 0, by rw [m5, up1_ne (by decide), up1_same], by rw [m5, up1_same]; rfl, fun j hj => by rw [d5 j hj]; exact hv.1 j hj, ?_, ?_, fun j hj => absurd hj (by omega), Or.inl rfl, ?_, hnm, by omega⟩
        · rcases hv.2.1 with z | z
          · exact Or.inl z
          · by_cases k0 : k = 0
            · exact Or.inl k0
            · right; rw [d5 _ (by omega)]; unfold dgs; rw [show a + 1 + (k - 1) = a + k by omega]; exact z
        · rw [vB_congr d5, hv.2.2.1, Int.emod_eq_of_lt (by omega) (by omega)]
        · rw [Int.ediv_eq_zero_of_lt (by omega) (by omega)]; rfl
    | succ r ih =>
      intro k hkr G g1 g2
      have gM := g1.self rfl
      have ia : ((a : Int) + 1 + (k : Int)).toNat = a + 1 + k := by omega
      refine bX12_divide_16 ⟨fun z => absurd (by omega) z, fun _ => ?_⟩
      simp only [Int.toNat_natCast, Option.some.injEq, Prod.mk.injEq, true_and, and_true, exists_eq_left', hk.k0, gM, hp.p1, hk.k1, hp.p3, hk.k2, ia, g1.at 1 rfl]
      refine ⟨by omega, ⟨by omega, by omega⟩, ⟨by omega, by omega⟩, by omega, by omega, by omega, by omega, by omega, by omega, fun H' e' => ⟨⟨by omega, by omega⟩, ih (k + 1) (by omega) H' (g1.same (by rw [e']; exact FC.up rfl)) (fun j hj => ?_)⟩⟩
      rw [e', upA_same]
      by_cases ej : j = k
      · subst ej; rw [up1_same]; rfl
      · rw [up1_ne ej]; exact g2 j (by omega)
  exact loop n 0 (by omega) H FC.rf (fun j hj => absurd hj (by omega))
/-- an operation that divides has laid number v at the old top t -/
def GotD (M : Nat) (H H' : Mem) (t n : Nat) (v : Int) : Prop := FC M [0, 1, 2, 3, 4] H H' ∧ FO [2, 6, 7] (H M) (H' M) ∧ H' M 2 = ((t + n + 1 : Nat) : Int) ∧ (∀ j, j < t → H' (M + 1) j = H (M + 1) j) ∧ BN (H' (M + 1)) t n v
theorem sp_X12_divided {q : Int → Mem → Prop} {t a b n m : Nat} {v w : Int} (hk : RefS K M) (hp : RefP (H M) M) (ht : H M 2 = (t : Int)) (ha : a + n < t) (hb : b + m < t) (h0 : t + n + 2 ≤ 20000) (hn : n ≤ 98) (hv : BN (H (M + 1)) a n v) (hw : BN (H (M + 1)) b m w) (hw0 : 0 < w) (hq : ∀ H' k, k ≤ n → GotD M H H' t k (v.tdiv w) → q (t : Int) H') : Ci mX12_divided (d + 3) [(2, (M : Int)), (0, (a : Int)), (0, (b : Int))] K H q := by
  refine eX12_divided fun _ _ _ => bX12_divided_0 ?_
  simp only [Int.toNat_natCast, Option.some.injEq, Prod.mk.injEq, true_and, and_true, exists_eq_left', hk.k0]
  refine ⟨by omega, sp_X12_divide hk hp (by omega) (by omega) hn hv hw (by omega) ?_⟩
  rintro H3 ⟨f1, f2, ln, qn, l6, l7, -, -, -, qD, qT, qV, -, qn2⟩
  have hp3 : RefP (H3 M) M := hp.cong _ rfl f2
  rw [l7]
  refine sp_X12_room (t := t) (n := qn) hk (by rw [f2 2 rfl]; exact ht) (by omega) ?_
  intro H5 e5
  have m5 : H5 M = up1 (H3 M) 2 ((t + qn + 1 : Nat) : Int) := by rw [e5, upA_same]
  have o5 : ∀ j, 0 < j → H5 (M + j) = H3 (M + j) := fun j hj => by rw [e5, upA_ne (by omega)]
  have hp5 : RefP (H5 M) M := by rw [m5]; exact hp3.cong [2] rfl (FO.up rfl)
  have v7 : H5 M 7 = (qn : Int) := by rw [m5, up1_ne (by decide)]; exact l7
  have low5 : H5 (M + 1) = H (M + 1) := by rw [o5 1 (by omega), f1.at 1 rfl]
  have hua : ((v.tdiv w).natAbs : Int) = (v.natAbs : Int) / (w.natAbs : Int) := by rw [Int.natAbs_tdiv]; exact Int.natCast_ediv _ _
  have hu0 : 0 ≤ v → 0 ≤ v.tdiv w := fun h => Int.tdiv_nonneg h (by omega)
  have hu1 : v ≤ 0 → v.tdiv w ≤ 0 := fun h => by
    have h1 := Int.tdiv_nonneg (show 0 ≤ -v by omega) (show 0 ≤ w by omega)
    rw [Int.neg_tdiv] at h1
    omega
  have loop : ∀ (r k : Nat), k + r = qn → ∀ G : Mem, (∀ x, x ≠ M + 1 → G x = H5 x) → (∀ j, j < t → G (M + 1) j = H (M + 1) j) → (∀ j, j < k → dgs (G (M + 1)) t j = H3 (M + 4) j) → FX12_divided_18 (d + 2) K G q (M : Int) (a : Int) (b : Int) (t : Int) (k : Int) := by
    intro r
    induction r with
    | zero =>
      intro k hkr G g1 g2 g3
      have ek : k = qn := by omega
      subst ek
      have gM := g1 M (by omega)
      have hpG : RefP (G M) M := by rw [gM]; exact hp5
      have g7 : G M 7 = (k : Int) := by rw [gM]; exact v7
      have bv := hv.keep (t := t) (by omega) g2
      have bw := hw.keep (t := t) (by omega) g2
      refine bX12_divided_18 ?_
      simp only [Int.toNat_natCast, Option.some.injEq, Prod.mk.injEq, true_and, and_true, exists_eq_left', hk.k0, g7]
      refine ⟨by omega, fun _ => sp_X12_sign hk hpG (by omega) bv (sp_X12_sign hk hpG (by omega) bw ?_), fun z => absurd z (by omega)⟩
      have fin : ∀ s : Int, (s = 0 → 0 ≤ v.tdiv w) → (s ≠ 0 → v.tdiv w ≤ 0) → Ci mX12_done (d + 2) [(2, (M : Int)), (0, (t : Int)), (0, (k : Int)), (0, s)] K G q := by
        intro s s0 s1
        refine sp_X12_done hk hpG (by omega) (fun j hj => by rw [g3 j hj]; exact qD j hj) (v := v.tdiv w) (by rw [vB_congr g3, qV, hua]) s0 s1 ?_
        intro H' k' c1 c2 c3 c4 c5 c6
        refine hq H' k' (by omega) ⟨?_, ?_, c3, fun j hj => (c4 j (by omega)).trans (g2 j hj), c6⟩
        · intro x hx
          have z0 := hx 0 rfl
          rw [c1 x (fun j hj => hx j (by simp at hj ⊢; omega)), g1 x (hx 1 rfl), e5, upA_ne (by omega), f1 x (fun j hj => hx j (by simp at hj ⊢; omega))]
        · rw [gM, m5] at c2
          exact ((f2.wide (l' := [2, 6, 7]) rfl).same (FO.up rfl)).same (c2.wide rfl)
      rw [Int.sign_eq_one_of_pos hw0, g7]
      refine ⟨fun z => fin 0 (fun _ => hu0 ?_) (fun z => absurd rfl z), fun z => ⟨fun z2 => fin 0 (fun _ => ?_) (fun z => absurd rfl z), fun z2 => fin 1 (fun z => absurd z (by decide)) (fun _ => hu1 ?_)⟩⟩
      · rcases sign_cases v with s | s | s <;> omega
      · have : (v.tdiv w).natAbs = 0 := by
          have e0 : k = 0 := by omega
          rw [e0] at qV
          simp only [vB] at qV
          omega
        omega
      · rcases sign_cases v with s | s | s <;> omega
    | succ r ih =>
      intro k hkr G g1 g2 g3
      have gM := g1 M (by omega)
      have hpG : RefP (G M) M := by rw [gM]; exact hp5
      have g7 : G M 7 = (qn : Int) := by rw [gM]; exact v7
      have it : ((t : Int) + 1 + (k : Int)).toNat = t + 1 + k := by omega
      refine bX12_divided_18 ?_
      simp only [Int.toNat_natCast, Option.some.injEq, Prod.mk.injEq, true_and, and_true, exists_eq_left', hk.k0, g7, hpG.p5, hk.k4, hpG.p1, hk.k1, it]
      refine ⟨by omega, fun z => absurd (by omega) z, fun _ => ⟨⟨by omega, by omega⟩, ⟨by omega, by omega⟩, by omega, by omega, by omega, by omega, by omega, by omega, fun H' e' => ⟨⟨by omega, by omega⟩, ih (k + 1) (by omega) H' (fun x hx => by rw [e', upA_ne hx, g1 x hx]) (fun j hj => by rw [e', upA_same, up1_ne (by omega), g2 j hj]) (fun j hj => ?_)⟩⟩⟩
      rw [e', upA_same, dgs_up]
      by_cases ej : j = k
      · subst ej; rw [up1_same, g1 (M + 4) (by omega), o5 4 (by omega)]
      · rw [up1_ne ej]; exact g3 j (by omega)
  exact loop qn 0 (by omega) H5 (fun _ _ => rfl) (fun j _ => by rw [low5]) (fun j hj => absurd hj (by omega))
theorem sp_X12_put {q : Mem → Prop} {x a n : Nat} {v : Int} (hk : RefS K M) (hp : RefP (H M) M) (ha : a + n < x) (hx : x + n < 20000) (hv : BN (H (M + 1)) a n v) (hq : ∀ H', FC M [1] H H' → (∀ j, j < x ∨ x + n < j → H' (M + 1) j = H (M + 1) j) → BN (H' (M + 1)) x n (v.natAbs : Int) → q H') : Cv mX12_put (d + 1) [(2, (M : Int)), (0, (x : Int)), (0, (a : Int))] K H q := by
  refine eX12_put fun _ _ _ => bX12_put_0 ?_
  simp only [Int.toNat_natCast, Option.some.injEq, Prod.mk.injEq, true_and, and_true, exists_eq_left', hk.k0]
  refine ⟨by omega, sp_X12_places hk hp (by omega) hv ?_⟩
  simp only [Int.toNat_natCast, Option.some.injEq, Prod.mk.injEq, true_and, and_true, exists_eq_left', hp.p1, hk.k1]
  refine ⟨by omega, by omega, by omega, fun H1 e1 => ?_⟩
  have loop : ∀ (r k : Nat), k + r = n → ∀ G : Mem, FC M [1] H G → (∀ j, j < x ∨ x + n < j → G (M + 1) j = H (M + 1) j) → G (M + 1) x = (n : Int) → (∀ j, j < k → dgs (G (M + 1)) x j = dgs (H (M + 1)) a j) → FX12_put_16 d K G q (M : Int) (x : Int) (a : Int) (n : Int) ((k + 1 : Nat) : Int) := by
    intro r
    induction r with
    | zero =>
      intro k hkr G g1 g2 g3 g4
      have ek : k = n := by omega
      subst ek
      refine bX12_put_16 ⟨fun _ => hq G g1 g2 ⟨fun j hj => by rw [g4 j hj]; exact hv.1 j hj, ?_, by rw [vB_congr g4, hv.2.2.1]; simp, by rw [g3, if_neg (by omega)]⟩, fun z => absurd z (by omega)⟩
      rcases hv.2.1 with z | z
      · exact Or.inl z
      · by_cases k0 : k = 0
        · exact Or.inl k0
        · right
          have := g4 (k - 1) (by omega)
          unfold dgs at this
          rw [show x + 1 + (k - 1) = x + k by omega, show a + 1 + (k - 1) = a + k by omega] at this
          rw [this]; exact z
    | succ r ih =>
      intro k hkr G g1 g2 g3 g4
      have gM := g1.self rfl
      have ix : ((x : Int) + ((k + 1 : Nat) : Int)).toNat = x + 1 + k := by omega
      have ia : ((a : Int) + ((k + 1 : Nat) : Int)).toNat = a + 1 + k := by omega
      refine bX12_put_16 ⟨fun z => absurd (by omega) z, fun _ => ?_⟩
      simp only [Int.toNat_natCast, Option.some.injEq, Prod.mk.injEq, true_and, and_true, exists_eq_left', hk.k0, gM, hp.p1, hk.k1, ix, ia]
      refine ⟨by omega, ⟨by omega, by omega⟩, ⟨by omega, by omega⟩, by omega, by omega, by omega, by omega, by omega, fun H' e' => ⟨⟨by omega, by omega⟩, ih (k + 1) (by omega) H' (g1.same (by rw [e']; exact FC.up rfl)) (fun j hj => by rw [e', upA_same, up1_ne (by omega), g2 j hj]) (by rw [e', upA_same, up1_ne (by omega)]; exact g3) (fun j hj => ?_)⟩⟩
      rw [e', upA_same, dgs_up]
      by_cases ej : j = k
      · subst ej; rw [up1_same, g2 _ (by omega)]; rfl
      · rw [up1_ne ej]; exact g4 j (by omega)
  exact loop n 0 (by omega) H1 (by rw [e1]; exact FC.up rfl) (fun j hj => by rw [e1, upA_same, up1_ne (by omega)]) (by rw [e1, upA_same, up1_same]) (fun j hj => absurd hj (by omega))
end Com
