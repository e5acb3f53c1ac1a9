/-! less, product -/
section Bn4
variable {d : Nat} {K : Shp} {H : Mem} {M : Nat} {q : Int → Mem → Prop}
theorem sp_X12_less {t a b n m : Nat} {v w : Int} (hk : RefS K M) (hp : RefP (H M) M) (ht : H M 2 = (t : Int)) (ha : a + n < t) (hb : b + m < t) (h0 : t + m + max n m + 6 ≤ 20000) (hv : BN (H (M + 1)) a n v) (hw : BN (H (M + 1)) b m w)
    (hq : ∀ H' k, k ≤ max n m + 1 → FC M [0, 1] H H' → FO [2] (H M) (H' M) → (∀ j, j < t → H' (M + 1) j = H (M + 1) j) → H' M 2 = ((t + m + 1 + k + 1 : Nat) : Int) → BN (H' (M + 1)) (t + m + 1) k (v - w) → q ((t + m + 1 : Nat) : Int) H') : Ci mX12_less (d + 3) [(2, (M : Int)), (0, (a : Int)), (0, (b : Int))] K H q := by
  refine eX12_less fun _ _ _ => bX12_less_0 ?_
  simp only [Int.toNat_natCast, Option.some.injEq, Prod.mk.injEq, true_and, and_true, exists_eq_left', hk.k0]
  refine ⟨by omega, sp_X12_turned hk hp ht hb (by omega) hw ?_⟩
  rintro H3 ⟨f1, f2, f3, f4, f5⟩
  refine sp_X12_sum (t := t + m + 1) hk (hp.cong _ rfl f2) f3 (by omega) (by omega) (by omega) (hv.keep (t := t) (by omega) f4) f5 ?_
  rintro H' k hk' ⟨g1, g2, g3, g4, g5⟩
  exact hq H' k hk' (f1.same g1) (f2.same g2) (fun j hj => (g4 j (by omega)).trans (f4 j hj)) g3 (by rw [show v - w = v + -w by omega]; exact g5)
theorem ring_pin {V c A B F p pk lo : Int} {z1 z2 : Int} (e : c + (A * B + F) = 1073741824 * z1 + z2) (h : V + c * (p * pk) = lo) : V + (z2 - F) * (p * pk) + z1 * (p * (pk * 1073741824)) = lo + A * (B * pk) * p := by
  have e2 : z2 = c + (A * B + F) - 1073741824 * z1 := by omega
  subst e2
  grind
theorem prod_bd {A B : Int} (a0 : 0 ≤ A) (a1 : A < 1073741824) (b0 : 0 ≤ B) (b1 : B < 1073741824) : 0 ≤ A * B ∧ A * B ≤ 1152921502459363329 := by
  have := mul_bd a0 (show A ≤ 1073741823 by omega) b0 (show B ≤ 1073741823 by omega)
  omega
set_option maxHeartbeats 1000000 in
theorem prod_inner {t a b n m i : Nat} {v w : Int} (hk : RefS K M) (hp : RefP (H M) M) (ha : a + n < t) (hb : b + m < t) (h0 : t + n + m + 1 ≤ 20000) (hv : BN (H (M + 1)) a n v) (hw : BN (H (M + 1)) b m w) (hi : i < n)
    (nxt : ∀ G : Mem, (∀ x, x ≠ M + 1 → G x = H x) → (∀ j, j < t → G (M + 1) j = H (M + 1) j) → D30 (dgs (G (M + 1)) t) (n + m) → (∀ j, i + 1 + m ≤ j → j < n + m → dgs (G (M + 1)) t j = 0) → vB (dgs (G (M + 1)) t) (n + m) = vB (dgs (H (M + 1)) a) (i + 1) * vB (dgs (H (M + 1)) b) m → FX12_product_77 d K G q (M : Int) (a : Int) (b : Int) (n : Int) (m : Int) (t : Int) ((i + 1 + 1 : Nat) : Int)) :
    ∀ (r k : Nat), k + r = m → ∀ (G : Mem) (c : Int), (∀ x, x ≠ M + 1 → G x = H x) → (∀ j, j < t → G (M + 1) j = H (M + 1) j) → D30 (dgs (G (M + 1)) t) (n + m) → (∀ j, i + m ≤ j → j < n + m → dgs (G (M + 1)) t j = 0) → 0 ≤ c → c < 1073741824 → vB (dgs (G (M + 1)) t) (n + m) + c * (1073741824 ^ i * 1073741824 ^ k) = vB (dgs (H (M + 1)) a) i * vB (dgs (H (M + 1)) b) m + dgs (H (M + 1)) a i * vB (dgs (H (M + 1)) b) k * 1073741824 ^ i →
      FX12_product_101 d K G q (M : Int) (a : Int) (b : Int) (n : Int) (m : Int) (t : Int) ((i + 1 : Nat) : Int) c (dgs (H (M + 1)) a i) ((k + 1 : Nat) : Int) := by
  intro r
  induction r with
  | zero =>
    intro k hkr G c g1 g2 g3 g4 c0 c1 g5
    have ek : k = m := by omega
    subst ek
    have gM := g1 M (by omega)
    have ix : ((t : Int) + ((i + 1 : Nat) : Int) + (k : Int)).toNat = t + 1 + (i + k) := by omega
    refine bX12_product_101 ⟨fun _ => ?_, fun g => absurd g (by omega)⟩
    simp only [Int.toNat_natCast, Option.some.injEq, Prod.mk.injEq, true_and, and_true, exists_eq_left', hk.k0, gM, hp.p1, hk.k1, ix]
    refine ⟨by omega, ⟨by omega, by omega⟩, ⟨by omega, by omega⟩, ⟨by omega, by omega⟩, by omega, by omega, by omega, fun H' e' => ⟨⟨by omega, by omega⟩, ?_⟩⟩
    have ed : dgs (H' (M + 1)) t = up1 (dgs (G (M + 1)) t) (i + k) c := by rw [e', upA_same, dgs_up]
    have z0 := g4 (i + k) (by omega) (by omega)
    refine nxt H' (fun x hx => by rw [e', upA_ne hx, g1 x hx]) (fun j hj => by rw [e', upA_same, up1_ne (by omega), g2 j hj]) (by rw [ed]; exact g3.setd c0 c1) (fun j h1 h2 => by rw [ed, up1_ne (by omega)]; exact g4 j (by omega) h2) ?_
    rw [ed, vB_set (by omega), z0, Int.sub_zero, Int.pow_add]
    simp only [vB]
    rw [g5]
    generalize vB (dgs (H (M + 1)) a) i = A1
    generalize vB (dgs (H (M + 1)) b) k = B1
    generalize dgs (H (M + 1)) a i = A2
    generalize (1073741824 : Int) ^ i = p
    grind
  | succ r ih =>
    intro k hkr G c g1 g2 g3 g4 c0 c1 g5
    have gM := g1 M (by omega)
    have hA := hv.1 i (by omega)
    have hBk := hw.1 k (by omega)
    have hF := g3 (i + k) (by omega)
    have ib : ((b : Int) + ((k + 1 : Nat) : Int)).toNat = b + 1 + k := by omega
    have ix : ((t : Int) + ((i + 1 : Nat) : Int) + ((k + 1 : Nat) : Int) - 1).toNat = t + 1 + (i + k) := by omega
    have eb : G (M + 1) (b + 1 + k) = dgs (H (M + 1)) b k := by unfold dgs; rw [g2 _ (by omega)]
    have ef : G (M + 1) (t + 1 + (i + k)) = dgs (G (M + 1)) t (i + k) := rfl
    have pb := prod_bd hA.1 hA.2 hBk.1 hBk.2
    refine bX12_product_101 ⟨fun g => absurd (by omega) g, fun _ => ?_⟩
    simp only [Int.toNat_natCast, Option.some.injEq, Prod.mk.injEq, true_and, and_true, exists_eq_left', hk.k0, gM, hp.p1, hk.k1, ib, ix, eb, ef]
    generalize hAe : dgs (H (M + 1)) a i = A at *
    generalize hBe : dgs (H (M + 1)) b k = B at *
    generalize hFe : dgs (G (M + 1)) t (i + k) = F at *
    generalize hP : A * B = AB at *
    refine ⟨by omega, ⟨by omega, by omega⟩, by omega, by omega, by omega, ⟨by omega, by omega⟩, ⟨by omega, by omega⟩, ⟨by omega, by omega⟩, ⟨by omega, by omega⟩, by omega, by omega, ⟨by omega, by omega⟩, ⟨by omega, by omega⟩, ⟨by omega, by omega⟩, fun H' e' => ⟨by omega, ⟨by omega, by omega⟩, ?_⟩⟩
    have ed : dgs (H' (M + 1)) t = up1 (dgs (G (M + 1)) t) (i + k) ((c + (AB + F)) % 1073741824) := by rw [e', upA_same, dgs_up]
    refine ih (k + 1) (by omega) H' _ (fun x hx => by rw [e', upA_ne hx, g1 x hx]) (fun j hj => by rw [e', upA_same, up1_ne (by omega), g2 j hj]) (by rw [ed]; exact g3.setd (by omega) (by omega)) (fun j h1 h2 => by rw [ed, up1_ne (by omega)]; exact g4 j (by omega) h2) (by omega) (by omega) ?_
    rw [ed, vB_set (by omega), hFe, Int.pow_add, bsucc]
    simp only [vB]
    rw [hBe]
    have e4 : c + (AB + F) = 1073741824 * ((c + (AB + F)) / 1073741824) + (c + (AB + F)) % 1073741824 := (Int.mul_ediv_add_emod _ _).symm
    have := ring_pin (A := A) (B := B) (by rw [hP]; exact e4) g5
    rw [this]
    generalize vB (dgs (H (M + 1)) b) k = B1
    generalize (1073741824 : Int) ^ i = p
    generalize (1073741824 : Int) ^ k = pk
    grind
theorem sp_X12_product {t a b n m : Nat} {v w : Int} (hk : RefS K M) (hp : RefP (H M) M) (ht : H M 2 = (t : Int)) (ha : a + n < t) (hb : b + m < t) (h0 : t + n + m + 4 ≤ 20000) (hv : BN (H (M + 1)) a n v) (hw : BN (H (M + 1)) b m w)
    (hq : ∀ H' k, k ≤ n + m → Got M H H' t k (v * w) → q (t : Int) H') : Ci mX12_product (d + 2) [(2, (M : Int)), (0, (a : Int)), (0, (b : Int))] K H q := by
  have zero : v * w = 0 → Ci mX12_whole (d + 1) [(2, (M : Int)), (1, 0)] K H q := by
    intro hz
    refine sp_X12_whole hk hp ht (by omega) (by decide) (fun H' k hk' hG => ?_)
    have kz : k = 0 := hG.2.2.2.2.zero.mpr rfl
    exact hq H' k (by omega) (by rw [hz]; exact hG)
  refine eX12_product fun _ _ _ => bX12_product_0 ?_
  simp only [Int.toNat_natCast, Option.some.injEq, Prod.mk.injEq, true_and, and_true, exists_eq_left', hk.k0]
  refine ⟨by omega, sp_X12_sign hk hp (by omega) hv ⟨fun g1 => zero ?_, fun g1 => sp_X12_sign hk hp (by omega) hw ⟨fun g2 => sp_X12_places hk hp (by omega) hv (sp_X12_places hk hp (by omega) hw ⟨⟨by omega, by omega⟩, ?_⟩), fun g2 => zero ?_⟩⟩⟩
  · have : v = 0 := by rcases sign_cases v with s | s | s <;> omega
    rw [this, Int.zero_mul]
  · rw [show (n : Int) + (m : Int) = ((n + m : Nat) : Int) by omega]
    refine sp_X12_room (t := t) (n := n + m) hk ht (by omega) ?_
    intro H5 e5
    have m5 : H5 M = up1 (H M) 2 ((t + (n + m) + 1 : Nat) : Int) := by rw [e5, upA_same]
    have o5 : H5 (M + 1) = H (M + 1) := by rw [e5, upA_ne (by omega)]
    have hp5 : RefP (H5 M) M := by rw [m5]; exact hp.cong [2] rfl (FO.up rfl)
    have hv5 : BN (H5 (M + 1)) a n v := by rw [o5]; exact hv
    have hw5 : BN (H5 (M + 1)) b m w := by rw [o5]; exact hw
    have outer : ∀ (r i : Nat), i + r = n → ∀ G : Mem, (∀ x, x ≠ M + 1 → G x = H5 x) → (∀ j, j < t → G (M + 1) j = H5 (M + 1) j) → D30 (dgs (G (M + 1)) t) (n + m) → (∀ j, i + m ≤ j → j < n + m → dgs (G (M + 1)) t j = 0) → vB (dgs (G (M + 1)) t) (n + m) = vB (dgs (H5 (M + 1)) a) i * vB (dgs (H5 (M + 1)) b) m → FX12_product_77 (d + 1) K G q (M : Int) (a : Int) (b : Int) (n : Int) (m : Int) (t : Int) ((i + 1 : Nat) : Int) := by
      intro r
      induction r with
      | zero =>
        intro i hi G g1 g2 g3 g4 g5
        have ei : i = n := by omega
        subst ei
        have gM := g1 M (by omega)
        have hpG : RefP (G M) M := by rw [gM]; exact hp5
        have bv := hv5.keep (t := t) (by omega) g2
        have bw := hw5.keep (t := t) (by omega) g2
        rw [hv5.2.2.1, hw5.2.2.1] at g5
        have en : ((v * w).natAbs : Int) = (v.natAbs : Int) * (w.natAbs : Int) := by rw [Int.natAbs_mul, Int.natCast_mul]
        refine bX12_product_77 ⟨fun _ => ?_, fun g => absurd g (by omega)⟩
        simp only [Int.toNat_natCast, Option.some.injEq, Prod.mk.injEq, true_and, and_true, exists_eq_left', hk.k0]
        refine ⟨⟨by omega, by omega⟩, by omega, sp_X12_sign hk hpG (by omega) bv (sp_X12_sign hk hpG (by omega) bw ?_)⟩
        have fin : ∀ s : Int, (s = 0 → 0 ≤ v * w) → (s ≠ 0 → v * w ≤ 0) → Ci mX12_done (d + 1) [(2, (M : Int)), (0, (t : Int)), (0, (i : Int) + (m : Int)), (0, s)] K G q := by
          intro s s0 s1
          rw [show (i : Int) + (m : Int) = ((i + m : Nat) : Int) by omega]
          refine sp_X12_done hk hpG (by omega) g3 (v := v * w) (by rw [g5, en]) s0 s1 ?_
          intro H' k f1 f2 f3 f4 f5 f6
          refine hq H' k f5 ⟨?_, ?_, f3, fun j hj => (f4 j (by omega)).trans ((g2 j hj).trans (by rw [o5])), f6⟩
          · intro x hx
            have z0 := hx 0 rfl
            rw [f1 x hx, g1 x (hx 1 rfl), e5, upA_ne (by omega)]
          · rw [gM, m5] at f2
            exact (FO.up (l := [2]) rfl).same f2
        refine ⟨fun g => fin 0 (fun _ => ?_) (fun z => absurd rfl z), fun g => fin 1 (fun z => absurd z (by decide)) (fun _ => ?_)⟩
        · rcases sign_cases v with s | s | s <;> rcases sign_cases w with s' | s' | s' <;> first | omega | exact Int.mul_nonneg (by omega) (by omega) | exact Int.mul_nonneg_of_nonpos_of_nonpos (by omega) (by omega)
        · rcases sign_cases v with s | s | s <;> rcases sign_cases w with s' | s' | s' <;> first | omega | exact Int.mul_nonpos_of_nonneg_of_nonpos (by omega) (by omega) | exact Int.mul_nonpos_of_nonpos_of_nonneg (by omega) (by omega)
      | succ r ih =>
        intro i hi G g1 g2 g3 g4 g5
        have gM := g1 M (by omega)
        have ia : ((a : Int) + ((i + 1 : Nat) : Int)).toNat = a + 1 + i := by omega
        have ea : G (M + 1) (a + 1 + i) = dgs (H5 (M + 1)) a i := by unfold dgs; rw [g2 _ (by omega)]
        refine bX12_product_77 ⟨fun g => absurd (by omega) g, fun _ => ?_⟩
        simp only [Int.toNat_natCast, Option.some.injEq, Prod.mk.injEq, true_and, and_true, exists_eq_left', hk.k0, gM, hp5.p1, hk.k1, ia, ea]
        refine ⟨by omega, ⟨by omega, by omega⟩, by omega, by omega, by omega, ?_⟩
        refine prod_inner (H := H5) hk hp5 ha hb (by omega) hv5 hw5 (show i < n by omega) (fun G' a1 a2 a3 a4 a5 => ih (i + 1) (by omega) G' a1 a2 a3 a4 a5) m 0 (by omega) G 0 g1 g2 g3 g4 (by omega) (by omega) ?_
        rw [g5]
        simp [vB]
    have zl : ∀ (r k : Nat), k + r = n + m → ∀ G : Mem, (∀ x, x ≠ M + 1 → G x = H5 x) → (∀ j, j < t → G (M + 1) j = H5 (M + 1) j) → (∀ j, j < k → dgs (G (M + 1)) t j = 0) → FX12_product_48 (d + 1) K G q (M : Int) (a : Int) (b : Int) (n : Int) (m : Int) (t : Int) ((k + 1 : Nat) : Int) := by
      intro r
      induction r with
      | zero =>
        intro k hkr G g1 g2 g3
        refine bX12_product_48 ⟨⟨by omega, by omega⟩, fun _ => ?_, fun g => absurd g (by omega)⟩
        refine outer n 0 (by omega) G g1 g2 (fun j hj => by rw [g3 j (by omega)]; omega) (fun j h1 h2 => g3 j (by omega)) ?_
        rw [vB_congr (g := fun _ => 0) (fun j hj => g3 j (by omega))]
        have : ∀ k : Nat, vB (fun _ => 0) k = 0 := fun k => by
          induction k with
          | zero => rfl
          | succ k ih => simp only [vB]; rw [ih]; simp
        rw [this]
        simp [vB]
      | succ r ih =>
        intro k hkr G g1 g2 g3
        have gM := g1 M (by omega)
        have ix : ((t : Int) + ((k + 1 : Nat) : Int)).toNat = t + 1 + k := by omega
        refine bX12_product_48 ⟨⟨by omega, by omega⟩, fun g => absurd (by omega) g, fun _ => ?_⟩
        simp only [Int.toNat_natCast, Option.some.injEq, Prod.mk.injEq, true_and, and_true, exists_eq_left', hk.k0, gM, hp5.p1, hk.k1, ix]
        refine ⟨by omega, ⟨by omega, by omega⟩, by omega, by omega, by omega, fun H' e' => ⟨⟨by omega, by omega⟩, ih (k + 1) (by omega) H' (fun x hx => by rw [e', upA_ne hx, g1 x hx]) (fun j hj => by rw [e', upA_same, up1_ne (by omega), g2 j hj]) (fun j hj => ?_)⟩⟩
        rw [e', upA_same, dgs_up]
        by_cases ej : j = k
        · subst ej; rw [up1_same]
        · rw [up1_ne ej]; exact g3 j (by omega)
    exact zl (n + m) 0 (by omega) H5 (fun _ _ => rfl) (fun _ _ => rfl) (fun j hj => absurd hj (by omega))
  · have : w = 0 := by rcases sign_cases w with s | s | s <;> omega
    rw [this, Int.mul_zero]
end Bn4
