/-! the reference's common -/
def Trio (t N x y z : Nat) : Prop := (x = t ∨ x = t + (N + 1) ∨ x = t + 2 * (N + 1)) ∧ (y = t ∨ y = t + (N + 1) ∨ y = t + 2 * (N + 1)) ∧ (z = t ∨ z = t + (N + 1) ∨ z = t + 2 * (N + 1)) ∧ x ≠ y ∧ y ≠ z ∧ x ≠ z
theorem Trio.rot {t N x y z : Nat} (h : Trio t N x y z) : Trio t N y z x := ⟨h.2.1, h.2.2.1, h.1, h.2.2.2.2.1, fun e => h.2.2.2.2.2 e.symm, fun e => h.2.2.2.1 e.symm⟩
theorem Trio.bx {t N x y z : Nat} (h : Trio t N x y z) : t ≤ x ∧ x + N < t + 3 * (N + 1) ∧ (x = t ∨ t + N < x) := by
  rcases h.1 with e | e | e <;> omega
theorem Trio.dyz {t N x y z : Nat} (h : Trio t N x y z) : y + N < z ∨ z + N < y := by
  obtain ⟨-, h2, h3, -, h5, -⟩ := h
  rcases h2 with e | e | e <;> rcases h3 with e' | e' | e' <;> omega
section Gcd
variable {d : Nat} {K : Shp} {H : Mem} {M : Nat}
set_option maxHeartbeats 4000000 in
theorem sp_X12_common {q : Int → Mem → Prop} {t a b n m : Nat} {v w : Int} (hk : RefS K M) (hp : RefP (H M) M) (ht : H M 2 = (t : Int)) (ha : a + n < t) (hb : b + m < t) (hn : n ≤ 90) (hm : m ≤ 90) (h0 : t + 300 ≤ 20000) (hv : BN (H (M + 1)) a n v) (hw : BN (H (M + 1)) b m w) (hq : ∀ H' k, k ≤ max n m → GotD M H H' t k ((Nat.gcd v.natAbs w.natAbs : Nat) : Int) → q (t : Int) H') : Ci mX12_common (d + 3) [(2, (M : Int)), (0, (a : Int)), (0, (b : Int))] K H q := by
  refine eX12_common fun _ _ _ => bX12_common_0 ?_
  simp only [Int.toNat_natCast, Option.some.injEq, Prod.mk.injEq, true_and, and_true, exists_eq_left', hk.k0]
  refine ⟨by omega, sp_X12_places hk hp (by omega) hv (sp_X12_places hk hp (by omega) hw ⟨⟨by omega, by omega⟩, ?_⟩)⟩
  obtain ⟨N, hN⟩ : ∃ N, N = max n m + 2 := ⟨_, rfl⟩
  rw [show max (n : Int) (m : Int) + 2 = (N : Int) by omega]
  refine sp_X12_room (t := t) (n := N) hk ht (by omega) ?_
  intro H1 e1
  have v1 : H1 M 2 = ((t + N + 1 : Nat) : Int) := by rw [e1, upA_same, up1_same]
  refine sp_X12_room (t := t + N + 1) (n := N) hk v1 (by omega) ?_
  intro H2 e2
  have v2 : H2 M 2 = ((t + N + 1 + N + 1 : Nat) : Int) := by rw [e2, upA_same, up1_same]
  refine sp_X12_room (t := t + N + 1 + N + 1) (n := N) hk v2 (by omega) ?_
  intro H3 e3
  have m3 : FO [2] (H M) (H3 M) := by rw [e3, upA_same, e2, upA_same, e1, upA_same]; exact ((FO.up rfl).same (FO.up rfl)).same (FO.up rfl)
  have o3 : ∀ x, x ≠ M → H3 x = H x := fun x hx => by rw [e3, upA_ne hx, e2, upA_ne hx, e1, upA_ne hx]
  have hp3 : RefP (H3 M) M := hp.cong _ rfl m3
  have l3 := o3 (M + 1) (by omega)
  refine sp_X12_put (x := t) hk hp3 ha (by omega) (by rw [l3]; exact hv) ?_
  intro H4 a1 a2 a3
  have hp4 : RefP (H4 M) M := by rw [a1.self rfl]; exact hp3
  have bw4 : BN (H4 (M + 1)) b m w := (show BN (H3 (M + 1)) b m w by rw [l3]; exact hw).keep (t := t) (by omega) (fun j hj => a2 j (by omega))
  refine sp_X12_put (x := t + N + 1) hk hp4 (by omega) (by omega) bw4 ?_
  intro H5 b1 b2 b3
  have a3' : BN (H5 (M + 1)) t n (v.natAbs : Int) := a3.keep (t := t + N + 1) (by omega) (fun j hj => b2 j (by omega))
  rw [ht]
  have main : ∀ (B A x y z nx ny : Nat) (G : Mem), Trio t N x y z → nx ≤ max n m → ny ≤ max n m → FC M [0, 1, 2, 3, 4] H G → FO [2, 6, 7] (H M) (G M) → (∀ j, j < t → G (M + 1) j = H (M + 1) j) → BN (G (M + 1)) x nx (A : Int) → BN (G (M + 1)) y ny (B : Int) → Nat.gcd A B = Nat.gcd v.natAbs w.natAbs → FX12_common_60 (d + 2) K G q (M : Int) (t : Int) (x : Int) (y : Int) (z : Int) := by
    intro B
    induction B using Nat.strongRecOn with
    | _ B ih =>
      intro A x y z nx ny G hT hnx hny g1 g2 g3 g4 g5 g6
      obtain ⟨bx1, bx2, bx3⟩ := hT.bx
      obtain ⟨by1, by2, by3⟩ := hT.rot.bx
      obtain ⟨bz1, bz2, bz3⟩ := hT.rot.rot.bx
      have dyz := hT.dyz
      have hpG : RefP (G M) M := hp.cong _ rfl g2
      have sy := g5.sgn
      refine bX12_common_60 ?_
      simp only [Int.toNat_natCast, Option.some.injEq, Prod.mk.injEq, true_and, and_true, exists_eq_left', hk.k0, hpG.p1, hk.k1]
      refine ⟨by omega, by omega, by omega, by omega, fun hB0 => ⟨by omega, by omega, ?_⟩, fun hBn => ?_⟩
      · have eB : B = 0 := by omega
        subst eB
        rw [Nat.gcd_zero_right] at g6
        have ex : G (M + 1) x = (nx : Int) := by have := g4.2.2.2; rw [if_neg (by omega)] at this; exact this
        rw [ex]
        have loop : ∀ (r k : Nat), k + r = nx + 1 → ∀ G' : Mem, (∀ c, c ≠ M + 1 → G' c = G c) → (∀ j, j < t → G' (M + 1) j = G (M + 1) j) → (∀ j, j < k → G' (M + 1) (t + j) = G (M + 1) (x + j)) → (∀ j, k ≤ j → j ≤ nx → G' (M + 1) (x + j) = G (M + 1) (x + j)) → FX12_common_157 (d + 2) K G' q (M : Int) (t : Int) (x : Int) (nx : Int) (k : Int) := by
          intro r
          induction r with
          | zero =>
            intro k hkr G' c1 c2 c3 c4
            refine bX12_common_157 ⟨fun _ => ?_, fun z => absurd z (by omega)⟩
            simp only [Int.toNat_natCast, Option.some.injEq, Prod.mk.injEq, true_and, and_true, exists_eq_left', hk.k0]
            refine ⟨⟨by omega, by omega⟩, ⟨by omega, by omega⟩, by omega, fun H6 e6 => ?_⟩
            have o6 : ∀ c, c ≠ M → H6 c = G' c := fun c hc => by rw [e6, upA_ne hc]
            have m6 : H6 M = up1 (G M) 2 ((t : Int) + (nx : Int) + 1) := by rw [e6, upA_same, c1 M (by omega)]
            have l6 := o6 (M + 1) (by omega)
            have ed : ∀ j, j < nx → dgs (H6 (M + 1)) t j = dgs (G (M + 1)) x j := fun j hj => by
              unfold dgs
              rw [l6, Nat.add_assoc, Nat.add_assoc]
              exact c3 (1 + j) (by omega)
            refine hq H6 nx hnx ⟨?_, ?_, by rw [m6, up1_same]; omega, fun j hj => by rw [l6, c2 j hj, g3 j hj], fun j hj => by rw [ed j hj]; exact g4.1 j hj, ?_, ?_, ?_⟩
            · intro c hc
              have z0 := hc 0 rfl
              rw [o6 c (by omega), c1 c (hc 1 rfl), g1 c hc]
            · rw [m6]; exact g2.same (FO.up rfl)
            · rw [l6, c3 nx (by omega)]; exact g4.2.1
            · rw [vB_congr ed, g4.2.2.1, ← g6]
            · have := c3 0 (by omega)
              simp only [Nat.add_zero] at this
              rw [l6, this, ex, if_neg (by omega)]
          | succ r ih2 =>
            intro k hkr G' c1 c2 c3 c4
            have i1 : ((t : Int) + (k : Int)).toNat = t + k := by omega
            have i2 : ((x : Int) + (k : Int)).toNat = x + k := by omega
            refine bX12_common_157 ⟨fun z => absurd (by omega) z, fun _ => ?_⟩
            simp only [Int.toNat_natCast, Option.some.injEq, Prod.mk.injEq, true_and, and_true, exists_eq_left', hk.k0, c1 M (by omega), hpG.p1, hk.k1, i1, i2]
            refine ⟨by omega, ⟨by omega, by omega⟩, ⟨by omega, by omega⟩, by omega, by omega, by omega, by omega, by omega, fun H' e' => ⟨⟨by omega, by omega⟩, ih2 (k + 1) (by omega) H' (fun c hc => by rw [e', upA_ne hc, c1 c hc]) (fun j hj => by rw [e', upA_same, up1_ne (by omega), c2 j hj]) (fun j hj => ?_) (fun j h1 h2 => ?_)⟩⟩
            · rw [e', upA_same]
              by_cases ej : j = k
              · subst ej; rw [up1_same]; exact c4 j (Nat.le_refl j) (by omega)
              · rw [up1_ne (by omega)]; exact c3 j (by omega)
            · rw [e', upA_same]
              by_cases ex2 : x + j = t + k
              · rw [ex2, up1_same, c4 k (Nat.le_refl k) (by omega)]
                exfalso
                omega
              · rw [up1_ne ex2]; exact c4 j (by omega) h2
        exact loop (nx + 1) 0 (by omega) G (fun _ _ => rfl) (fun _ _ => rfl) (fun j hj => absurd hj (by omega)) (fun _ _ _ => rfl)
      · have hB : 0 < B := by omega
        refine sp_X12_divide hk hpG (by omega) (by omega) (by omega) g4 g5 (by omega) ?_
        rintro G1 ⟨f1, f2, ln, qn, l6, l7, lD, lT, lV, -, -, -, ln2, -⟩
        have hp1 : RefP (G1 M) M := hpG.cong _ rfl f2
        have low1 := f1.at 1 rfl
        simp only [Int.natAbs_natCast] at lV
        simp only [Int.toNat_natCast, Option.some.injEq, Prod.mk.injEq, true_and, and_true, exists_eq_left', hp1.p1, hk.k1, l6]
        refine ⟨by omega, by omega, by omega, fun G2 e2 => ?_⟩
        have loop : ∀ (r k : Nat), k + r = ln → ∀ G' : Mem, (∀ c, c ≠ M + 1 → G' c = G1 c) → (∀ j, j < z ∨ z + ln < j → G' (M + 1) j = G (M + 1) j) → G' (M + 1) z = (ln : Int) → (∀ j, j < k → dgs (G' (M + 1)) z j = G1 (M + 2) j) → FX12_common_92 (d + 2) K G' q (M : Int) (t : Int) (x : Int) (y : Int) (z : Int) (k : Int) := by
          intro r
          induction r with
          | zero =>
            intro k hkr G' c1 c2 c3 c4
            have ek : k = ln := by omega
            subst ek
            have cM := c1 M (by omega)
            refine bX12_common_92 ?_
            simp only [Int.toNat_natCast, Option.some.injEq, Prod.mk.injEq, true_and, and_true, exists_eq_left', hk.k0, cM, l6]
            refine ⟨by omega, fun _ => ?_, fun z => absurd z (by omega)⟩
            have hmod : (A : Int) % (B : Int) = ((A % B : Nat) : Int) := (Int.natCast_emod A B).symm
            have hlt := Nat.mod_lt A hB
            have bz : BN (G' (M + 1)) z k ((A % B : Nat) : Int) := by
              refine ⟨fun j hj => by rw [c4 j hj]; exact lD j hj, ?_, by rw [vB_congr c4, lV, hmod, Int.natAbs_natCast], by rw [c3, if_neg (by omega)]⟩
              rcases lT with h | h
              · exact Or.inl h
              · by_cases k0 : k = 0
                · exact Or.inl k0
                · right
                  have := c4 (k - 1) (by omega)
                  unfold dgs at this
                  rw [show z + 1 + (k - 1) = z + k by omega] at this
                  rw [this]; exact h
            have by' : BN (G' (M + 1)) y ny (B : Int) := by
              obtain ⟨h1, h2, h3, h4⟩ := g5
              have ed : ∀ j, j < ny → dgs (G' (M + 1)) y j = dgs (G (M + 1)) y j := fun j hj => by
                unfold dgs
                exact c2 _ (by omega)
              exact ⟨fun j hj => by rw [ed j hj]; exact h1 j hj, by rw [c2 _ (by omega)]; exact h2, by rw [vB_congr ed]; exact h3, by rw [c2 _ (by omega)]; exact h4⟩
            refine ih (A % B) hlt B y z x ny k G' hT.rot hny (by omega) ?_ ?_ ?_ by' bz ?_
            · intro c hc
              rw [c1 c (hc 1 rfl), f1 c (fun j hj => hc j (by simp at hj ⊢; omega)), g1 c hc]
            · rw [cM]; exact g2.same (f2.wide rfl)
            · intro j hj; rw [c2 j (by omega), g3 j hj]
            · rw [← g6, Nat.gcd_comm A B, Nat.gcd_rec B A, Nat.gcd_comm]
          | succ r ih2 =>
            intro k hkr G' c1 c2 c3 c4
            have cM := c1 M (by omega)
            have iz : ((z : Int) + 1 + (k : Int)).toNat = z + 1 + k := by omega
            refine bX12_common_92 ?_
            simp only [Int.toNat_natCast, Option.some.injEq, Prod.mk.injEq, true_and, and_true, exists_eq_left', hk.k0, cM, l6, hp1.p3, hk.k2, hp1.p1, hk.k1, iz, c1 (M + 2) (by omega)]
            refine ⟨by omega, fun z => absurd (by omega) z, fun _ => ⟨⟨by omega, by omega⟩, ⟨by omega, by omega⟩, by omega, by omega, by omega, by omega, by omega, by omega, fun H' e' => ⟨⟨by omega, by omega⟩, ih2 (k + 1) (by omega) H' (fun c hc => by rw [e', upA_ne hc, c1 c hc]) (fun j hj => by rw [e', upA_same, up1_ne (by omega), c2 j hj]) (by rw [e', upA_same, up1_ne (by omega)]; exact c3) (fun j hj => ?_)⟩⟩⟩
            rw [e', upA_same, dgs_up]
            by_cases ej : j = k
            · subst ej; rw [up1_same]
            · rw [up1_ne ej]; exact c4 j (by omega)
        refine loop ln 0 (by omega) G2 (fun c hc => by rw [e2, upA_ne hc]) (fun j hj => by rw [e2, upA_same, up1_ne (by omega), low1]) (by rw [e2, upA_same, up1_same]) (fun j hj => absurd hj (by omega))
  refine main w.natAbs v.natAbs t (t + N + 1) (t + N + 1 + N + 1) n m H5 ⟨by omega, by omega, by omega, by omega, by omega, by omega⟩ (by omega) (by omega) ?_ ?_ ?_ a3' b3 rfl
  · intro c hc
    have z0 := hc 0 rfl
    rw [b1 c (fun j hj => hc j (by simp at hj ⊢; omega)), a1 c (fun j hj => hc j (by simp at hj ⊢; omega)), o3 c (by omega)]
  · rw [b1.self rfl, a1.self rfl]; exact m3.wide rfl
  · intro j hj; rw [b2 j (by omega), a2 j (by omega), l3]
end Gcd
