/-! the reference's divide -/
/-- what divide leaves: rest and quotient of |v| by |w| -/
def DivOut (M : Nat) (H H' : Mem) (n m : Nat) (v w : Int) : Prop := FC M [0, 2, 3, 4] H H' ∧ FO [6, 7] (H M) (H' M) ∧ ∃ ln qn : Nat, H' M 6 = (ln : Int) ∧ H' M 7 = (qn : Int) ∧ D30 (H' (M + 2)) ln ∧ (ln = 0 ∨ H' (M + 2) (ln - 1) ≠ 0) ∧ vB (H' (M + 2)) ln = (v.natAbs : Int) % (w.natAbs : Int) ∧ D30 (H' (M + 4)) qn ∧ (qn = 0 ∨ H' (M + 4) (qn - 1) ≠ 0) ∧ vB (H' (M + 4)) qn = (v.natAbs : Int) / (w.natAbs : Int) ∧ ln ≤ m ∧ qn ≤ n
section Sw
variable {M : MM} {d fc fs : Nat} {sc : Option (Nat × (Nat → Int))} {pc : Nat} {ls : List (Nat × AV)} {st : List AV} {K : Shp} {H : Mem} {Q : Option AV → Shp → Mem → Prop} {x y : Int}
/-- the same or, the greater part above on the stack -/
theorem r_ior_sw (n : Nat) (hd : decode M.2.1 pc = .ok (.ior, 1)) (hx0 : 0 ≤ y) (hxn : y % (2 ^ n : Nat) = 0) (hy0 : 0 ≤ x) (hyn : x < (2 ^ n : Nat)) (h : inI (x + y)) (k : Fr M d fc fs sc (pc + 1) ls ((0, x + y) :: st) K H Q) : Fr M d fc fs sc pc ls ((0, y) :: (0, x) :: st) K H Q :=
  Fr.pure k (fun o => ok_push h (ok_2 o).2.2) (fun φ b lsA hx hb _ _ o w => lv_ior hx hb hd (by
    have hxi : inI x := (ok_2 o).2.1
    have hyi : inI y := (ok_2 o).1
    have e : Int32.ofInt x ||| Int32.ofInt y = Int32.ofInt (x + y) := by
      have a1 := hxi.2
      have a2 := hyi.2
      have a3 := h.2
      obtain ⟨a, rfl⟩ := Int.eq_ofNat_of_zero_le hy0
      obtain ⟨c, rfl⟩ := Int.eq_ofNat_of_zero_le hx0
      apply Int32.toBitVec.inj
      apply BitVec.eq_of_toNat_eq
      rw [Int32.toBitVec_or, BitVec.toNat_or, i_toNat, i_toNat, i_toNat, Int.emod_eq_of_lt (by omega) (by omega), Int.emod_eq_of_lt (by omega) (by omega), Int.emod_eq_of_lt (by omega) (by omega), Int.toNat_natCast, Int.toNat_natCast, Nat.or_comm, nat_or (k := n)]
      · omega
      · rw [← Int.natCast_emod] at hxn; omega
      · omega
    rw [show ((0, x) : AV).2 = x from rfl, show ((0, y) : AV).2 = y from rfl, e]; exact w))
end Sw
set_option maxHeartbeats 4000000 in
set_option maxRecDepth 20000 in
theorem sX12_divide_414 {d : Nat} {K : Shp} {H : Mem} {q : Mem → Prop} {v0 v4 v5 v6 s0 s1 s2 s3 : Int} (h : (∃ n : Nat, (0 : Int) ≤ s0 ∧ (s0 : Int) % (2 ^ n : Nat) = 0 ∧ (0 : Int) ≤ s1 ∧ (s1 : Int) < (2 ^ n : Nat) ∧ inI (s1 + s0)) ∧ ((0 : Int) ≤ s3) ∧ ∃ n3 : Nat, (K[(s3 : Int).toNat]? = some (20, n3)) ∧ ((0 : Int) ≤ s2) ∧ ((s2 : Int) < n3) ∧ ∀ H7 : Mem, H7 = upA H (s3 : Int).toNat (up1 (H (s3 : Int).toNat) (s2 : Int).toNat (s1 + s0)) → (inI (v6 + 1)) ∧ FX12_divide_355 d K H7 q (v0) (v4) (v5) ((v6 + 1))) : FX12_divide_414 d K H q (v0) (v4) (v5) (v6) (s0) (s1) (s2) (s3) := by
  unfold FX12_divide_414
  obtain ⟨h1, h⟩ := h
  obtain ⟨nh1, h1a, h1b, h1c, h1d, h1e⟩ := h1
  refine r_ior_sw nh1 dX12_divide_414 h1a h1b h1c h1d h1e ?_
  obtain ⟨h2, h⟩ := h
  obtain ⟨n3, h⟩ := h
  obtain ⟨h4, h⟩ := h
  obtain ⟨h5, h⟩ := h
  obtain ⟨h6, h⟩ := h
  refine r_iast n3 dX12_divide_415 h2 h4 h5 h6 ?_
  replace h := h _ rfl
  generalize upA H (s3 : Int).toNat (up1 (H (s3 : Int).toNat) (s2 : Int).toNat (s1 + s0)) = H7 at h ⊢
  obtain ⟨h8, h⟩ := h
  refine r_iinc 3 dX12_divide_416 (by decide) rfl h8 rfl ?_
  refine r_goto (tgt := 355) dX12_divide_419 (by decide) ?_
  refine Fr.fewer [1, 2, 3, 0] rfl ?_
  exact h
theorem div_fin {P A B L Q : Int} (hP : 1 ≤ P) (hB : 0 < B) (h : L + P * B * Q = P * A) (h0 : 0 ≤ L) (h1 : L < P * B) : Q = A / B ∧ L = P * (A % B) := by
  have e : L = P * (A - B * Q) := by rw [Int.mul_sub, ← Int.mul_assoc]; omega
  have r0 : 0 ≤ A - B * Q := by
    rcases Int.lt_or_le (A - B * Q) 0 with z | z
    · exfalso
      have := Int.mul_le_mul_of_nonneg_left (show A - B * Q ≤ -1 by omega) (show 0 ≤ P by omega)
      omega
    · exact z
  have r1 : A - B * Q < B := by
    rcases Int.lt_or_le (A - B * Q) B with z | z
    · exact z
    · exfalso
      have := Int.mul_le_mul_of_nonneg_left z (show 0 ≤ P by omega)
      omega
  have eA : A = (A - B * Q) + Q * B := by rw [Int.mul_comm Q B]; omega
  have q1 : A / B = Q := by
    rw [eA, Int.add_mul_ediv_right _ _ (by omega), Int.ediv_eq_zero_of_lt r0 r1]
    omega
  have q2 : A % B = A - B * Q := by
    have := Int.mul_ediv_add_emod A B
    rw [q1] at this
    omega
  exact ⟨q1.symm, by rw [q2]; exact e⟩
section Div
variable {d : Nat} {K : Shp} {H : Mem} {M : Nat} {q : Mem → Prop}
/-- the last three loops: trim the quotient, shift the rest back, trim it -/
theorem div_tail {n m s : Nat} {P R v w : Int} (hk : RefS K M) (hp : RefP (H M) M) (hPR : PR s P R) (hm : 0 < m) (hm99 : m ≤ 99) (hn99 : n ≤ 99) (hw0 : 0 < (w.natAbs : Int)) (hq : ∀ H', DivOut M H H' n m v w → q H') :
    ∀ (c : Nat) (G : Mem), c ≤ n → c ≤ 99 → FC M [0, 2, 3, 4] H G → FO [6, 7] (H M) (G M) → G M 7 = (c : Int) → D30 (G (M + 4)) c → D30 (G (M + 2)) m → vB (G (M + 2)) m + P * (w.natAbs : Int) * vB (G (M + 4)) c = P * (v.natAbs : Int) → vB (G (M + 2)) m < P * (w.natAbs : Int) → FX12_divide_318 d K G q (M : Int) (m : Int) (s : Int) := by
  have hpp := hPR.pos
  have trimL : ∀ (l : Nat) (G : Mem) (c : Nat), l ≤ m → c ≤ n → FC M [0, 2, 3, 4] H G → FO [6, 7] (H M) (G M) → G M 6 = (l : Int) → G M 7 = (c : Int) → D30 (G (M + 2)) l → vB (G (M + 2)) l = (v.natAbs : Int) % (w.natAbs : Int) → D30 (G (M + 4)) c → (c = 0 ∨ G (M + 4) (c - 1) ≠ 0) → vB (G (M + 4)) c = (v.natAbs : Int) / (w.natAbs : Int) → FX12_divide_428 d K G q (M : Int) := by
    intro l
    induction l with
    | zero =>
      intro G c hl hc g1 g2 g3 g4 g5 g6 g7 g8 g9
      refine bX12_divide_428 ?_
      simp only [Int.toNat_natCast, Option.some.injEq, Prod.mk.injEq, true_and, and_true, exists_eq_left', hk.k0, g3]
      exact ⟨by omega, fun _ => hq G ⟨g1, g2, 0, c, g3, g4, g5, Or.inl rfl, g6, g7, g8, g9, by omega, hc⟩, fun z => absurd (by omega) z⟩
    | succ l ih =>
      intro G c hl hc g1 g2 g3 g4 g5 g6 g7 g8 g9
      have i1 : (((l + 1 : Nat) : Int) - 1).toNat = l := by omega
      refine bX12_divide_428 ?_
      simp only [Int.toNat_natCast, Option.some.injEq, Prod.mk.injEq, true_and, and_true, exists_eq_left', hk.k0, g3, g2 3 rfl, hp.p3, hk.k2, i1]
      refine ⟨by omega, fun z => absurd z (by omega), fun _ => ⟨⟨by omega, by omega⟩, by omega, by omega, by omega, fun hne => hq G ⟨g1, g2, l + 1, c, g3, g4, g5, Or.inr hne, g6, g7, g8, g9, hl, hc⟩, fun heq H11 e11 => ?_⟩⟩
      have m11 : H11 M = up1 (G M) 6 (((l + 1 : Nat) : Int) - 1) := by rw [e11, upA_same]
      have o : ∀ j, 0 < j → H11 (M + j) = G (M + j) := fun j hj => by rw [e11, upA_ne (by omega)]
      refine ih H11 c (by omega) hc (g1.same (by rw [e11]; exact FC.up0 rfl)) (by rw [m11]; exact g2.same (FO.up rfl)) (by rw [m11, up1_same]; omega) (by rw [m11, up1_ne (by decide)]; exact g4) (by rw [o 2 (by omega)]; exact g5.less (Nat.le_succ l)) ?_ (by rw [o 4 (by omega)]; exact g7) (by rw [o 4 (by omega)]; exact g8) (by rw [o 4 (by omega)]; exact g9)
      rw [o 2 (by omega), ← g6, vB_top, heq]
      omega
  have back : ∀ (r k : Nat), k + r = m → ∀ (G : Mem) (c : Nat) (L : Nat → Int), c ≤ n → FC M [0, 2, 3, 4] H G → FO [6, 7] (H M) (G M) → G M 7 = (c : Int) → D30 L m → (∀ j, j < k → G (M + 2) j = shr L P R m j) → (∀ j, k ≤ j → j < m → G (M + 2) j = L j) → P * vB (shr L P R m) m = vB L m → vB (shr L P R m) m = (v.natAbs : Int) % (w.natAbs : Int) → D30 (G (M + 4)) c → (c = 0 ∨ G (M + 4) (c - 1) ≠ 0) → vB (G (M + 4)) c = (v.natAbs : Int) / (w.natAbs : Int) → FX12_divide_355 d K G q (M : Int) (m : Int) (s : Int) (k : Int) := by
    intro r
    induction r with
    | zero =>
      intro k hkr G c L hc g1 g2 g3 hL g4 g5 g6 g7 g8 g9 g10
      refine bX12_divide_355 ⟨fun _ => ?_, fun z => absurd z (by omega)⟩
      simp only [Int.toNat_natCast, Option.some.injEq, Prod.mk.injEq, true_and, and_true, exists_eq_left', hk.k0]
      refine ⟨by omega, fun H4 e4 => ?_⟩
      have m4 : H4 M = up1 (G M) 6 (m : Int) := by rw [e4, upA_same]
      have o : ∀ j, 0 < j → H4 (M + j) = G (M + j) := fun j hj => by rw [e4, upA_ne (by omega)]
      have ed : ∀ j, j < m → H4 (M + 2) j = shr L P R m j := fun j hj => by rw [o 2 (by omega)]; exact g4 j (by omega)
      refine trimL m H4 c (Nat.le_refl m) hc (g1.same (by rw [e4]; exact FC.up0 rfl)) (by rw [m4]; exact g2.same (FO.up rfl)) (by rw [m4, up1_same]) (by rw [m4, up1_ne (by decide)]; exact g3) (fun j hj => by rw [ed j hj]; exact (shr_bd hPR hL hj).2.2) (by rw [vB_congr ed]; exact g7) (by rw [o 4 (by omega)]; exact g8) (by rw [o 4 (by omega)]; exact g9) (by rw [o 4 (by omega)]; exact g10)
    | succ r ih =>
      intro k hkr G c L hc g1 g2 g3 hL g4 g5 g6 g7 g8 g9 g10
      have sb := shr_bd hPR hL (k := k) (by omega)
      have hgk := g5 k (Nat.le_refl k) (by omega)
      have i1 : ((k : Int) + 1).toNat = k + 1 := by omega
      have i2 : (s : Int).toNat = s := by omega
      have i3 : ((30 : Int) - (s : Int)).toNat = 30 - s := by omega
      have s29 := hPR.1
      have nx : ∀ (y : Int), y = (if k + 1 < m then L (k + 1) * R % 1073741824 else 0) → FX12_divide_414 d K G q (M : Int) (m : Int) (s : Int) (k : Int) y (L k / P) (k : Int) ((M + 2 : Nat) : Int) := by
        intro y hy
        have hxy : shr L P R m k = L k / P + y := by unfold shr; rw [hy]
        have hmod : 0 ≤ y ∧ y % R = 0 := by
          rw [hy]
          by_cases c1 : k + 1 < m
          · rw [if_pos c1, hPR.modR]
            exact ⟨Int.mul_nonneg (by omega) (Int.emod_nonneg _ (by omega)), Int.mul_emod_right _ _⟩
          · rw [if_neg c1]; exact ⟨by omega, Int.zero_emod _⟩
        refine sX12_divide_414 ?_
        simp only [Int.toNat_natCast, Option.some.injEq, Prod.mk.injEq, true_and, and_true, exists_eq_left', hk.k2]
        rw [← hxy]
        refine ⟨⟨30 - s, hmod.1, by rw [← hPR.2.2]; exact hmod.2, sb.1, by rw [← hPR.2.2]; exact sb.2.1, ⟨by omega, by omega⟩⟩, by omega, by omega, by omega, fun H' e' => ⟨⟨by omega, by omega⟩, ?_⟩⟩
        have c2 : H' (M + 2) = up1 (G (M + 2)) k (shr L P R m k) := by rw [e', upA_same]
        have o : ∀ j, j ≠ 2 → H' (M + j) = G (M + j) := fun j hj => by rw [e', upA_ne (by omega)]
        have mM : H' M = G M := o 0 (by omega)
        refine ih (k + 1) (by omega) H' c L hc (g1.same (by rw [e']; exact FC.up rfl)) (by rw [mM]; exact g2) (by rw [mM]; exact g3) hL (fun j hj => ?_) (fun j h1 h2 => ?_) g6 g7 (by rw [o 4 (by omega)]; exact g8) (by rw [o 4 (by omega)]; exact g9) (by rw [o 4 (by omega)]; exact g10)
        · rw [c2]
          by_cases ej : j = k
          · subst ej; rw [up1_same]
          · rw [up1_ne ej]; exact g4 j (by omega)
        · rw [c2, up1_ne (by omega)]; exact g5 j (by omega) h2
      refine bX12_divide_355 ⟨fun z => absurd (by omega) z, fun _ => ?_⟩
      simp only [Int.toNat_natCast, Option.some.injEq, Prod.mk.injEq, true_and, and_true, exists_eq_left', hk.k0, g2 3 rfl, hp.p3, hk.k2, hgk, i1, i3]
      rw [← hPR.2.1, ← hPR.2.2]
      refine ⟨by omega, by omega, by omega, by omega, by omega, by omega, ⟨by omega, by omega⟩, fun z => nx 0 (by rw [if_neg (by omega)]), fun z => ⟨fun z0 => nx 0 ?_, fun z0 => ⟨by omega, by omega, ⟨by omega, by omega⟩, by omega, by omega, ?_⟩⟩⟩
      · have hR : R = 1073741824 := by
          have h1 := hPR.2.2
          have : s = 0 := by omega
          rw [this] at h1
          rw [h1]; decide
        rw [if_pos (by omega), hR, Int.mul_emod_left]
      · have hg1 := g5 (k + 1) (by omega) (by omega)
        rw [hg1, bm_mod]
        exact nx _ (by rw [if_pos (by omega)])
  intro c
  have fin : ∀ (c : Nat) (G : Mem), c ≤ n → FC M [0, 2, 3, 4] H G → FO [6, 7] (H M) (G M) → G M 7 = (c : Int) → D30 (G (M + 4)) c → D30 (G (M + 2)) m → vB (G (M + 2)) m + P * (w.natAbs : Int) * vB (G (M + 4)) c = P * (v.natAbs : Int) → vB (G (M + 2)) m < P * (w.natAbs : Int) → (c = 0 ∨ G (M + 4) (c - 1) ≠ 0) → FX12_divide_355 d K G q (M : Int) (m : Int) (s : Int) 0 := by
    intro c G hc g1 g2 g3 g4 g5 g6 g7 g8
    obtain ⟨f1, f2⟩ := div_fin hpp.1 hw0 g6 (vB_nonneg g5) g7
    have hL0 : G (M + 2) 0 % P = 0 := by
      obtain ⟨m', rfl⟩ : ∃ m', m = m' + 1 := ⟨m - 1, by omega⟩
      have h1 := vB_modP (f := G (M + 2)) hPR m'
      rw [f2] at h1
      have e : G (M + 2) 0 = P * ((v.natAbs : Int) % (w.natAbs : Int)) - (P * ((v.natAbs : Int) % (w.natAbs : Int)) - G (M + 2) 0) := by omega
      rw [e, Int.sub_emod, h1, Int.mul_emod_right]
      simp
    have hv := shr_val (f := G (M + 2)) (m := m) hPR m (Nat.le_refl m)
    rw [if_neg (by omega), hL0, if_neg (by omega)] at hv
    refine back m 0 (by omega) G c (G (M + 2)) hc g1 g2 g3 g5 (fun j hj => absurd hj (by omega)) (fun _ _ _ => rfl) (by omega) ?_ g4 g8 f1
    have : P * vB (shr (G (M + 2)) P R m) m = P * ((v.natAbs : Int) % (w.natAbs : Int)) := by omega
    exact Int.eq_of_mul_eq_mul_left (by omega) this
  induction c with
  | zero =>
    intro G hc hc99 g1 g2 g3 g4 g5 g6 g7
    refine bX12_divide_318 ?_
    simp only [Int.toNat_natCast, Option.some.injEq, Prod.mk.injEq, true_and, and_true, exists_eq_left', hk.k0, g3]
    exact ⟨by omega, fun _ => fin 0 G hc g1 g2 g3 g4 g5 g6 g7 (Or.inl rfl), fun z => absurd (by omega) z⟩
  | succ c ih =>
    intro G hc hc99 g1 g2 g3 g4 g5 g6 g7
    have i1 : (((c + 1 : Nat) : Int) - 1).toNat = c := by omega
    refine bX12_divide_318 ?_
    simp only [Int.toNat_natCast, Option.some.injEq, Prod.mk.injEq, true_and, and_true, exists_eq_left', hk.k0, g3, g2 5 rfl, hp.p5, hk.k4, i1]
    refine ⟨by omega, fun z => absurd z (by omega), fun _ => ⟨⟨by omega, by omega⟩, by omega, by omega, by omega, fun hne => fin (c + 1) G hc g1 g2 g3 g4 g5 g6 g7 (Or.inr hne), fun heq H11 e11 => ?_⟩⟩
    have m11 : H11 M = up1 (G M) 7 (((c + 1 : Nat) : Int) - 1) := by rw [e11, upA_same]
    have o : ∀ j, 0 < j → H11 (M + j) = G (M + j) := fun j hj => by rw [e11, upA_ne (by omega)]
    refine ih H11 (by omega) (by omega) (g1.same (by rw [e11]; exact FC.up0 rfl)) (by rw [m11]; exact g2.same (FO.up rfl)) (by rw [m11, up1_same]; omega) (by rw [o 4 (by omega)]; exact g4.less (Nat.le_succ c)) (by rw [o 2 (by omega)]; exact g5) ?_ (by rw [o 2 (by omega)]; exact g7)
    rw [o 2 (by omega), o 4 (by omega), ← g6, vB_top, heq]
    simp
end Div
