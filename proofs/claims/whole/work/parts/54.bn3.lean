/-! sum, less -/
theorem bmono {n k : Nat} (h : n ≤ k) : (1073741824 : Int) ^ n ≤ 1073741824 ^ k := by
  have e : (1073741824 : Int) ^ k = 1073741824 ^ n * 1073741824 ^ (k - n) := by rw [← Int.pow_add]; congr 1; omega
  have h1 := bpos (k - n)
  have h2 : (1073741824 : Int) ^ n * 1 ≤ 1073741824 ^ n * 1073741824 ^ (k - n) := Int.mul_le_mul_of_nonneg_left (by omega) (Int.le_of_lt (bpos n))
  omega
theorem ring_add {V A B c x y z1 z2 p : Int} (e : c + x + y = 1073741824 * z1 + z2) (h : V + c * p = A + B) : V + z2 * p + z1 * (p * 1073741824) = A + x * p + (B + y * p) := by
  have e2 : z2 = c + x + y - 1073741824 * z1 := by omega
  subst e2
  grind
theorem ring_sub {V A B c x y l z p : Int} (e : z = x - c - y + l * 1073741824) (h : V - c * p = A - B) : V + z * p - l * (p * 1073741824) = A + x * p - (B + y * p) := by
  subst e
  grind
section Bn3
variable {d : Nat} {K : Shp} {H : Mem} {M : Nat} {q : Int → Mem → Prop}
theorem sum_same {t a b n m N : Nat} {v w : Int} (hk : RefS K M) (hp : RefP (H M) M) (ha : a + n < t) (hb : b + m < t) (hN : N = max n m + 1) (h0 : t + N + 1 ≤ 20000) (hv : BN (H (M + 1)) a n v) (hw : BN (H (M + 1)) b m w) (hs : (0 ≤ v ∧ 0 ≤ w) ∨ (v < 0 ∧ w < 0))
    (hq : ∀ H' k, k ≤ N → Got M H H' t k (v + w) → q (t : Int) H') : ∀ H5, H5 = upA H M (up1 (H M) 2 ((t + N + 1 : Nat) : Int)) → FX12_sum_70 d K H5 q (M : Int) (a : Int) (b : Int) (N : Int) (t : Int) 0 1 := by
  intro H5 e5
  have m5 : H5 M = up1 (H M) 2 ((t + N + 1 : Nat) : Int) := by rw [e5, upA_same]
  have o5 : H5 (M + 1) = H (M + 1) := by rw [e5, upA_ne (by omega)]
  have hp5 : RefP (H5 M) M := by rw [m5]; exact hp.cong [2] rfl (FO.up rfl)
  have da := exD_bd hv.1
  have db := exD_bd hw.1
  have loop : ∀ (r j : Nat), j + r = N → ∀ (G : Mem) (c : Int), (∀ x, x ≠ M + 1 → G x = H5 x) → (∀ i, i < t → G (M + 1) i = H (M + 1) i) → D30 (dgs (G (M + 1)) t) j → 0 ≤ c → c ≤ 1 → vB (dgs (G (M + 1)) t) j + c * 1073741824 ^ j = vB (exD (dgs (H (M + 1)) a) n) j + vB (exD (dgs (H (M + 1)) b) m) j → FX12_sum_70 d K G q (M : Int) (a : Int) (b : Int) (N : Int) (t : Int) c ((j + 1 : Nat) : Int) := by
    intro r
    induction r with
    | zero =>
      intro j hj G c g1 g2 g3 c0 c1 g4
      have ej : j = N := by omega
      subst ej
      have gM := g1 M (by omega)
      have hpG : RefP (G M) M := by rw [gM]; exact hp5
      have bv := hv.keep (t := t) (by omega) g2
      have bw := hw.keep (t := t) (by omega) g2
      rw [vB_ex' (by omega), vB_ex' (by omega), hv.2.2.1, hw.2.2.1] at g4
      have l1 := vB_lt hv.1
      have l2 := vB_lt hw.1
      rw [hv.2.2.1] at l1
      rw [hw.2.2.1] at l2
      have l3 := bmono (show n ≤ max n m by omega)
      have l4 := bmono (show m ≤ max n m by omega)
      have l5 := bsucc (max n m)
      rw [← hN] at l5
      have l6 := bpos (max n m)
      have l7 := vB_nonneg g3
      have cz : c = 0 := by
        rcases (show c = 0 ∨ c = 1 by omega) with g | g
        · exact g
        · exfalso; rw [g] at g4; omega
      rw [cz] at g4
      refine bX12_sum_70 ⟨fun _ => ?_, fun g => absurd g (by omega)⟩
      simp only [Int.toNat_natCast, Option.some.injEq, Prod.mk.injEq, true_and, and_true, exists_eq_left', hk.k0]
      refine ⟨by omega, sp_X12_sign hk hpG (by omega) bv ?_⟩
      have fin : ∀ s : Int, (s = 0 → 0 ≤ v + w) → (s ≠ 0 → v + w ≤ 0) → Ci mX12_done d [(2, (M : Int)), (0, (t : Int)), (0, (j : Int)), (0, s)] K G q := by
        intro s s0 s1
        refine sp_X12_done hk hpG (by omega) g3 (v := v + w) (by omega) s0 s1 ?_
        intro H' k f1 f2 f3 f4 f5 f6
        refine hq H' k f5 ⟨?_, ?_, f3, fun i hi => (f4 i (by omega)).trans (g2 i hi), f6⟩
        · intro x hx
          have z0 := hx 0 rfl
          rw [f1 x hx, g1 x (hx 1 rfl), e5, upA_ne (by omega)]
        · rw [gM, m5] at f2
          exact (FO.up (l := [2]) rfl).same f2
      refine ⟨fun g => fin 0 (fun _ => ?_) (fun z => absurd rfl z), fun g => fin 1 (fun z => absurd z (by decide)) (fun _ => ?_)⟩
      · rcases hs with s | s
        · omega
        · exfalso; rw [Int.sign_eq_neg_one_of_neg s.1] at g; exact g (by decide)
      · rcases hs with s | s
        · exfalso
          rcases (show v = 0 ∨ 0 < v by omega) with z | z
          · rw [z] at g; exact absurd g (by decide)
          · rw [Int.sign_eq_one_of_pos z] at g; exact absurd g (by decide)
        · omega
    | succ r ih =>
      intro j hj G c g1 g2 g3 c0 c1 g4
      have gM := g1 M (by omega)
      have hpG : RefP (G M) M := by rw [gM]; exact hp5
      have bv := hv.keep (t := t) (by omega) g2
      have bw := hw.keep (t := t) (by omega) g2
      have hda := da j
      have hdb := db j
      have it : ((t : Int) + ((j + 1 : Nat) : Int)).toNat = t + 1 + j := by omega
      have g125 : FX12_sum_125 d K G q (M : Int) (a : Int) (b : Int) (N : Int) (t : Int) ((j + 1 : Nat) : Int) (exD (dgs (H (M + 1)) b) m j) (c + exD (dgs (H (M + 1)) a) n j) := by
        refine bX12_sum_125 ?_
        simp only [Int.toNat_natCast, Option.some.injEq, Prod.mk.injEq, true_and, and_true, exists_eq_left', hk.k0, hpG.p1, hk.k1, it]
        refine ⟨⟨by omega, by omega⟩, by omega, ⟨by omega, by omega⟩, by omega, by omega, by omega, fun H' e' => ⟨by omega, ⟨by omega, by omega⟩, ?_⟩⟩
        have ed : dgs (H' (M + 1)) t = up1 (dgs (G (M + 1)) t) j ((c + exD (dgs (H (M + 1)) a) n j + exD (dgs (H (M + 1)) b) m j) % 1073741824) := by rw [e', upA_same, dgs_up]
        refine ih (j + 1) (by omega) H' _ (fun x hx => by rw [e', upA_ne hx, g1 x hx]) (fun i hi => by rw [e', upA_same, up1_ne (by omega), g2 i hi]) (by rw [ed]; exact g3.up (by omega) (by omega)) (by omega) (by omega) ?_
        rw [ed, vB_step, bsucc]
        simp only [vB]
        have e4 : c + exD (dgs (H (M + 1)) a) n j + exD (dgs (H (M + 1)) b) m j = 1073741824 * ((c + exD (dgs (H (M + 1)) a) n j + exD (dgs (H (M + 1)) b) m j) / 1073741824) + (c + exD (dgs (H (M + 1)) a) n j + exD (dgs (H (M + 1)) b) m j) % 1073741824 := (Int.mul_ediv_add_emod _ _).symm
        exact ring_add e4 g4
      have g101 : FX12_sum_101 d K G q (M : Int) (a : Int) (b : Int) (N : Int) (t : Int) ((j + 1 : Nat) : Int) (exD (dgs (H (M + 1)) a) n j) c := by
        have ib : ((b : Int) + ((j + 1 : Nat) : Int)).toNat = b + 1 + j := by omega
        refine bX12_sum_101 ?_
        simp only [Int.toNat_natCast, Option.some.injEq, Prod.mk.injEq, true_and, and_true, exists_eq_left', hk.k0, hpG.p1, hk.k1, ib]
        refine ⟨⟨by omega, by omega⟩, by omega, sp_X12_places hk hpG (by omega) bw ⟨fun g => ?_, fun g => ?_⟩⟩
        · have e0 : exD (dgs (H (M + 1)) b) m j = 0 := by unfold exD; rw [if_neg (by omega)]
          rw [e0] at g125; exact g125
        · simp only [Int.toNat_natCast, Option.some.injEq, Prod.mk.injEq, true_and, and_true, exists_eq_left', hpG.p1, hk.k1, ib]
          refine ⟨⟨by omega, by omega⟩, by omega, by omega, by omega, ?_⟩
          have e0 : exD (dgs (H (M + 1)) b) m j = G (M + 1) (b + 1 + j) := by unfold exD; rw [if_pos (by omega)]; unfold dgs; rw [g2 _ (by omega)]
          rw [e0] at g125; exact g125
      have ia : ((a : Int) + ((j + 1 : Nat) : Int)).toNat = a + 1 + j := by omega
      refine bX12_sum_70 ⟨fun g => absurd (by omega) g, fun _ => ?_⟩
      simp only [Int.toNat_natCast, Option.some.injEq, Prod.mk.injEq, true_and, and_true, exists_eq_left', hk.k0, hpG.p1, hk.k1, ia]
      refine ⟨by omega, sp_X12_places hk hpG (by omega) bv ⟨fun g => ?_, fun g => ?_⟩⟩
      · have e0 : exD (dgs (H (M + 1)) a) n j = 0 := by unfold exD; rw [if_neg (by omega)]
        rw [e0] at g101; exact g101
      · simp only [Int.toNat_natCast, Option.some.injEq, Prod.mk.injEq, true_and, and_true, exists_eq_left', hpG.p1, hk.k1, ia]
        refine ⟨⟨by omega, by omega⟩, by omega, by omega, by omega, ?_⟩
        have e0 : exD (dgs (H (M + 1)) a) n j = G (M + 1) (a + 1 + j) := by unfold exD; rw [if_pos (by omega)]; unfold dgs; rw [g2 _ (by omega)]
        rw [e0] at g101; exact g101
  exact loop N 0 (by omega) H5 0 (fun _ _ => rfl) (fun i _ => by rw [o5]) (fun j hj => absurd hj (by omega)) (by omega) (by omega) rfl
theorem sum_diff {t a b n m : Nat} {v w : Int} (hk : RefS K M) (hp : RefP (H M) M) (ht : H M 2 = (t : Int)) (ha : a + n < t) (hb : b + m < t) (h0 : t + n + 1 ≤ 20000) (hv : BN (H (M + 1)) a n v) (hw : BN (H (M + 1)) b m w) (hs : (0 < v ∧ w < 0) ∨ (v < 0 ∧ 0 < w)) (hlt : w.natAbs < v.natAbs)
    (hq : ∀ H' k, k ≤ n → Got M H H' t k (v + w) → q (t : Int) H') : FX12_sum_214 d K H q (M : Int) (a : Int) (b : Int) := by
  have hnm : m ≤ n := by
    have l1 := vB_lt hv.1
    rw [hv.2.2.1] at l1
    exact hw.len (by omega)
  refine bX12_sum_214 ?_
  simp only [Int.toNat_natCast, Option.some.injEq, Prod.mk.injEq, true_and, and_true, exists_eq_left', hk.k0]
  refine ⟨by omega, sp_X12_places hk hp (by omega) hv (sp_X12_room (t := t) (n := n) hk ht (by omega) ?_)⟩
  intro H5 e5
  have m5 : H5 M = up1 (H M) 2 ((t + n + 1 : Nat) : Int) := by rw [e5, upA_same]
  have o5 : H5 (M + 1) = H (M + 1) := by rw [e5, upA_ne (by omega)]
  have hp5 : RefP (H5 M) M := by rw [m5]; exact hp.cong [2] rfl (FO.up rfl)
  have db := exD_bd hw.1
  have loop : ∀ (r j : Nat), j + r = n → ∀ (G : Mem) (c : Int), (∀ x, x ≠ M + 1 → G x = H5 x) → (∀ i, i < t → G (M + 1) i = H (M + 1) i) → D30 (dgs (G (M + 1)) t) j → 0 ≤ c → c ≤ 1 → vB (dgs (G (M + 1)) t) j - c * 1073741824 ^ j = vB (dgs (H (M + 1)) a) j - vB (exD (dgs (H (M + 1)) b) m) j → FX12_sum_238 d K G q (M : Int) (a : Int) (b : Int) (n : Int) (t : Int) c ((j + 1 : Nat) : Int) := by
    intro r
    induction r with
    | zero =>
      intro j hj G c g1 g2 g3 c0 c1 g4
      have ej : j = n := by omega
      subst ej
      have gM := g1 M (by omega)
      have hpG : RefP (G M) M := by rw [gM]; exact hp5
      have bv := hv.keep (t := t) (by omega) g2
      rw [vB_ex' hnm, hv.2.2.1, hw.2.2.1] at g4
      have l1 := vB_lt g3
      have cz : c = 0 := by
        rcases (show c = 0 ∨ c = 1 by omega) with g | g
        · exact g
        · exfalso; rw [g] at g4; omega
      rw [cz] at g4
      refine bX12_sum_238 ⟨fun _ => ?_, fun g => absurd g (by omega)⟩
      simp only [Int.toNat_natCast, Option.some.injEq, Prod.mk.injEq, true_and, and_true, exists_eq_left', hk.k0]
      refine ⟨by omega, sp_X12_sign hk hpG (by omega) bv ?_⟩
      have fin : ∀ s : Int, (s = 0 → 0 ≤ v + w) → (s ≠ 0 → v + w ≤ 0) → Ci mX12_done d [(2, (M : Int)), (0, (t : Int)), (0, (j : Int)), (0, s)] K G q := by
        intro s s0 s1
        refine sp_X12_done hk hpG (by omega) g3 (v := v + w) (by omega) s0 s1 ?_
        intro H' k f1 f2 f3 f4 f5 f6
        refine hq H' k f5 ⟨?_, ?_, f3, fun i hi => (f4 i (by omega)).trans (g2 i hi), f6⟩
        · intro x hx
          have z0 := hx 0 rfl
          rw [f1 x hx, g1 x (hx 1 rfl), e5, upA_ne (by omega)]
        · rw [gM, m5] at f2
          exact (FO.up (l := [2]) rfl).same f2
      refine ⟨fun g => fin 0 (fun _ => ?_) (fun z => absurd rfl z), fun g => fin 1 (fun z => absurd z (by decide)) (fun _ => ?_)⟩
      · rcases hs with s | s
        · omega
        · exfalso; rw [Int.sign_eq_neg_one_of_neg s.1] at g; exact g (by decide)
      · rcases hs with s | s
        · exfalso; rw [Int.sign_eq_one_of_pos s.1] at g; exact absurd g (by decide)
        · omega
    | succ r ih =>
      intro j hj G c g1 g2 g3 c0 c1 g4
      have gM := g1 M (by omega)
      have hpG : RefP (G M) M := by rw [gM]; exact hp5
      have bw := hw.keep (t := t) (by omega) g2
      have hda := hv.1 j (by omega)
      have hdb := db j
      have it : ((t : Int) + ((j + 1 : Nat) : Int)).toNat = t + 1 + j := by omega
      have ia : ((a : Int) + ((j + 1 : Nat) : Int)).toNat = a + 1 + j := by omega
      have ib : ((b : Int) + ((j + 1 : Nat) : Int)).toNat = b + 1 + j := by omega
      have ga : G (M + 1) (a + 1 + j) = dgs (H (M + 1)) a j := by unfold dgs; rw [g2 _ (by omega)]
      have g296 : ∀ l : Int, (l = if dgs (H (M + 1)) a j - c - exD (dgs (H (M + 1)) b) m j < 0 then 1 else 0) → FX12_sum_296 d K G q (M : Int) (a : Int) (b : Int) (n : Int) (t : Int) ((j + 1 : Nat) : Int) (dgs (H (M + 1)) a j - c - exD (dgs (H (M + 1)) b) m j) l := by
        intro l hl
        have hl2 : l = 0 ∨ l = 1 := by rw [hl]; split <;> omega
        refine bX12_sum_296 ?_
        simp only [Int.toNat_natCast, Option.some.injEq, Prod.mk.injEq, true_and, and_true, exists_eq_left', hk.k0, hpG.p1, hk.k1, it]
        refine ⟨by omega, ⟨by omega, by omega⟩, by omega, by omega, by omega, fun H' e' => ⟨⟨by omega, by omega⟩, ?_⟩⟩
        have ed : dgs (H' (M + 1)) t = up1 (dgs (G (M + 1)) t) j ((dgs (H (M + 1)) a j - c - exD (dgs (H (M + 1)) b) m j) % 1073741824) := by rw [e', upA_same, dgs_up]
        refine ih (j + 1) (by omega) H' _ (fun x hx => by rw [e', upA_ne hx, g1 x hx]) (fun i hi => by rw [e', upA_same, up1_ne (by omega), g2 i hi]) (by rw [ed]; exact g3.up (by omega) (by omega)) (by omega) (by omega) ?_
        rw [ed, vB_step, bsucc]
        simp only [vB]
        refine ring_sub ?_ g4
        rw [hl]
        split <;> omega
      refine bX12_sum_238 ⟨fun g => absurd (by omega) g, fun _ => ?_⟩
      simp only [Int.toNat_natCast, Option.some.injEq, Prod.mk.injEq, true_and, and_true, exists_eq_left', hk.k0, hpG.p1, hk.k1, ia, ga, ib]
      refine ⟨by omega, ⟨by omega, by omega⟩, by omega, by omega, by omega, ⟨by omega, by omega⟩, sp_X12_places hk hpG (by omega) bw ⟨fun g => ?_, fun g => ?_⟩⟩
      · have e0 : exD (dgs (H (M + 1)) b) m j = 0 := by unfold exD; rw [if_neg (by omega)]
        rw [e0] at g296
        exact ⟨⟨by omega, by omega⟩, fun z => g296 0 (by rw [if_neg z]), fun z => g296 1 (by rw [if_pos z])⟩
      · have e0 : exD (dgs (H (M + 1)) b) m j = G (M + 1) (b + 1 + j) := by unfold exD; rw [if_pos (by omega)]; unfold dgs; rw [g2 _ (by omega)]
        rw [e0] at g296 hdb
        simp only [Int.toNat_natCast, Option.some.injEq, Prod.mk.injEq, true_and, and_true, exists_eq_left', hpG.p1, hk.k1, ib]
        exact ⟨⟨by omega, by omega⟩, by omega, by omega, by omega, ⟨by omega, by omega⟩, fun z => g296 0 (by rw [if_neg z]), fun z => g296 1 (by rw [if_pos z])⟩
  exact loop n 0 (by omega) H5 0 (fun _ _ => rfl) (fun i _ => by rw [o5]) (fun j hj => absurd hj (by omega)) (by omega) (by omega) rfl
theorem sign_cases (v : Int) : (v < 0 ∧ v.sign = -1) ∨ (v = 0 ∧ v.sign = 0) ∨ (0 < v ∧ v.sign = 1) := by
  rcases Int.lt_trichotomy v 0 with h | h | h
  · exact Or.inl ⟨h, Int.sign_eq_neg_one_of_neg h⟩
  · exact Or.inr (Or.inl ⟨h, by rw [h]; rfl⟩)
  · exact Or.inr (Or.inr ⟨h, Int.sign_eq_one_of_pos h⟩)
theorem sp_X12_sum {t a b n m : Nat} {v w : Int} (hk : RefS K M) (hp : RefP (H M) M) (ht : H M 2 = (t : Int)) (ha : a + n < t) (hb : b + m < t) (h0 : t + max n m + 4 ≤ 20000) (hv : BN (H (M + 1)) a n v) (hw : BN (H (M + 1)) b m w)
    (hq : ∀ H' k, k ≤ max n m + 1 → Got M H H' t k (v + w) → q (t : Int) H') : Ci mX12_sum (d + 2) [(2, (M : Int)), (0, (a : Int)), (0, (b : Int))] K H q := by
  refine eX12_sum fun _ _ _ => bX12_sum_0 ?_
  simp only [Int.toNat_natCast, Option.some.injEq, Prod.mk.injEq, true_and, and_true, exists_eq_left', hk.k0]
  refine ⟨by omega, sp_X12_sign hk hp (by omega) hv ⟨fun g1 => sp_X12_sign hk hp (by omega) hw ⟨fun g2 => sp_X12_sign hk hp (by omega) hv (sp_X12_sign hk hp (by omega) hw ⟨fun g3 => ?_, fun g3 => ?_⟩), fun g2 => ?_⟩, fun g1 => ?_⟩⟩
  · refine sp_X12_compareSizes hk hp (by omega) (by omega) hv hw ⟨fun g4 => ⟨fun g5 => ⟨fun _ => ?_, fun z => absurd g5 z⟩, fun g5 => ⟨fun z => absurd z g5, fun _ => ?_⟩⟩, fun g4 => ?_⟩
    · refine sum_diff hk hp ht hb ha (by omega) hw hv ?_ ?_ (fun H' k hk' hG => hq H' k (by omega) (by rw [Int.add_comm]; exact hG))
      · rcases sign_cases v with s | s | s <;> rcases sign_cases w with s' | s' | s' <;> omega
      · rcases sign_cases ((v.natAbs : Int) - (w.natAbs : Int)) with s | s | s <;> omega
    · refine sum_diff hk hp ht ha hb (by omega) hv hw ?_ ?_ (fun H' k hk' hG => hq H' k (by omega) hG)
      · rcases sign_cases v with s | s | s <;> rcases sign_cases w with s' | s' | s' <;> omega
      · rcases sign_cases ((v.natAbs : Int) - (w.natAbs : Int)) with s | s | s <;> omega
    · have e0 : v + w = 0 := by
        rcases sign_cases ((v.natAbs : Int) - (w.natAbs : Int)) with s | s | s <;> rcases sign_cases v with s1 | s1 | s1 <;> rcases sign_cases w with s' | s' | s' <;> omega
      refine sp_X12_whole hk hp ht (by omega) (by decide) (fun H' k hk' hG => ?_)
      have kz : k = 0 := hG.2.2.2.2.zero.mpr rfl
      exact hq H' k (by omega) (by rw [e0]; exact hG)
  · refine sp_X12_places hk hp (by omega) hv (sp_X12_places hk hp (by omega) hw ⟨⟨by omega, by omega⟩, ?_⟩)
    have eN : max (n : Int) (m : Int) + 1 = ((max n m + 1 : Nat) : Int) := by omega
    rw [eN]
    refine sp_X12_room (t := t) (n := max n m + 1) hk ht (by omega) ?_
    refine sum_same hk hp ha hb rfl (by omega) hv hw ?_ hq
    rcases sign_cases v with s | s | s <;> rcases sign_cases w with s' | s' | s' <;> omega
  · have w0 : w = 0 := by rcases sign_cases w with s' | s' | s' <;> omega
    refine sp_X12_copy hk hp ht ha (by omega) hv (fun H' hG => hq H' n (by omega) ?_)
    rw [w0, Int.add_zero]; exact hG
  · have v0 : v = 0 := by rcases sign_cases v with s' | s' | s' <;> omega
    refine sp_X12_copy hk hp ht hb (by omega) hw (fun H' hG => hq H' m (by omega) ?_)
    rw [v0, Int.zero_add]; exact hG
theorem Got.trans_keep {t n t2 n2 : Nat} {H H1 H2 : Mem} {v w : Int} (h1 : Got M H H1 t n v) (h2 : Got M H1 H2 t2 n2 w) : FC M [0, 1] H H2 ∧ FO [2] (H M) (H2 M) := ⟨h1.1.same h2.1, h1.2.1.same h2.2.1⟩
end Bn3
