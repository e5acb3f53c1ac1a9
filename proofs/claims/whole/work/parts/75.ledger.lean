/-! the reference's long numbers in a ledger: every number made since H0, newest first: (place, most digits, value) -/
def Lg (M : Nat) (H0 H : Mem) (T : Nat) (l : List (Nat × Nat × Int)) : Prop := FC M [0, 1] H0 H ∧ FO [2] (H0 M) (H M) ∧ ∃ t : Nat, t ≤ T ∧ H M 2 = (t : Int) ∧ ∀ e, e ∈ l → ∃ n, n ≤ e.2.1 ∧ e.1 + n < t ∧ BN (H (M + 1)) e.1 n e.2.2
section Lgs
variable {d : Nat} {K : Shp} {H0 H : Mem} {M T : Nat} {l : List (Nat × Nat × Int)} {q : Int → Mem → Prop}
theorem Lg.nil {t : Nat} (h : H M 2 = (t : Int)) (ht : t ≤ T) : Lg M H H T [] := ⟨FC.rf, FO.rf, t, ht, h, fun e he => absurd he (by simp)⟩
theorem Lg.fo (L : Lg M H0 H T l) (k : Nat) (hk : [2].contains k = false) : H M k = H0 M k := L.2.1 k hk
theorem Lg.fc (L : Lg M H0 H T l) (j : Nat) (hj : [0, 1].contains j = false) : H (M + j) = H0 (M + j) := L.1.at j hj
theorem lg_add {H' : Mem} {t n N : Nat} {v : Int} (f : FC M [0, 1] H0 H) (o : FO [2] (H0 M) (H M)) (ht : t ≤ T) (h : ∀ e, e ∈ l → ∃ n, n ≤ e.2.1 ∧ e.1 + n < t ∧ BN (H (M + 1)) e.1 n e.2.2) (hn : n ≤ N) (g : Got M H H' t n v) : Lg M H0 H' (T + N + 1) ((t, N, v) :: l) := by
  refine ⟨f.same g.1, o.same g.2.1, t + n + 1, by omega, g.2.2.1, fun e he => ?_⟩
  rcases List.mem_cons.mp he with he | he
  · rw [he]; exact ⟨n, hn, by show t + n < t + n + 1; omega, g.2.2.2.2⟩
  · obtain ⟨m, m1, m2, m3⟩ := h e he
    exact ⟨m, m1, by omega, m3.keep m2 g.2.2.2.1⟩
theorem lg_whole {v : Int} (hk : RefS K M) (hp : RefP (H0 M) M) (L : Lg M H0 H T l) (hT : T + 4 ≤ 20000) (hv : v ≠ -9223372036854775808) (hq : ∀ H' (a : Nat), Lg M H0 H' (T + 3 + 1) ((a, 3, v) :: l) → q (a : Int) H') : Ci mX12_whole (d + 1) [(2, (M : Int)), (1, v)] K H q := by
  obtain ⟨f, o, t, ht, e, h⟩ := L
  exact sp_X12_whole hk (hp.cong [2] rfl o) e (by omega) hv (fun H' n hn g => hq H' t (lg_add f o ht h hn g))
theorem lg_product {i j a b N N' : Nat} {v w : Int} (hk : RefS K M) (hp : RefP (H0 M) M) (L : Lg M H0 H T l) (hi : l[i]? = some (a, N, v)) (hj : l[j]? = some (b, N', w)) (hT : T + (N + N') + 4 ≤ 20000) (hq : ∀ H' (a : Nat), Lg M H0 H' (T + (N + N') + 1) ((a, N + N', v * w) :: l) → q (a : Int) H') : Ci mX12_product (d + 2) [(2, (M : Int)), (0, (a : Int)), (0, (b : Int))] K H q := by
  obtain ⟨f, o, t, ht, e, h⟩ := L
  obtain ⟨n, n1, n2, n3⟩ := h _ (List.mem_of_getElem? hi)
  obtain ⟨m, m1, m2, m3⟩ := h _ (List.mem_of_getElem? hj)
  dsimp only at n1 n2 n3 m1 m2 m3
  exact sp_X12_product hk (hp.cong [2] rfl o) e n2 m2 (by omega) n3 m3 (fun H' k hk g => hq H' t (lg_add f o ht h (by omega) g))
theorem lg_sum {i j a b N N' : Nat} {v w : Int} (hk : RefS K M) (hp : RefP (H0 M) M) (L : Lg M H0 H T l) (hi : l[i]? = some (a, N, v)) (hj : l[j]? = some (b, N', w)) (hT : T + (max N N' + 1) + 4 ≤ 20000) (hq : ∀ H' (a : Nat), Lg M H0 H' (T + (max N N' + 1) + 1) ((a, max N N' + 1, v + w) :: l) → q (a : Int) H') : Ci mX12_sum (d + 2) [(2, (M : Int)), (0, (a : Int)), (0, (b : Int))] K H q := by
  obtain ⟨f, o, t, ht, e, h⟩ := L
  obtain ⟨n, n1, n2, n3⟩ := h _ (List.mem_of_getElem? hi)
  obtain ⟨m, m1, m2, m3⟩ := h _ (List.mem_of_getElem? hj)
  dsimp only at n1 n2 n3 m1 m2 m3
  exact sp_X12_sum hk (hp.cong [2] rfl o) e n2 m2 (by omega) n3 m3 (fun H' k hk g => hq H' t (lg_add f o ht h (by omega) g))
theorem lg_less {i j a b N N' : Nat} {v w : Int} (hk : RefS K M) (hp : RefP (H0 M) M) (L : Lg M H0 H T l) (hi : l[i]? = some (a, N, v)) (hj : l[j]? = some (b, N', w)) (hT : T + N' + (N + N' + 1) + 6 ≤ 20000) (hq : ∀ H' (a : Nat), Lg M H0 H' (T + N' + 1 + (N + N' + 1) + 1) ((a, N + N' + 1, v - w) :: l) → q (a : Int) H') : Ci mX12_less (d + 3) [(2, (M : Int)), (0, (a : Int)), (0, (b : Int))] K H q := by
  obtain ⟨f, o, t, ht, e, h⟩ := L
  obtain ⟨n, n1, n2, n3⟩ := h _ (List.mem_of_getElem? hi)
  obtain ⟨m, m1, m2, m3⟩ := h _ (List.mem_of_getElem? hj)
  dsimp only at n1 n2 n3 m1 m2 m3
  refine sp_X12_less hk (hp.cong [2] rfl o) e n2 m2 (by omega) n3 m3 (fun H' k hk g1 g2 g3 g4 g5 => hq H' (t + m + 1) ⟨f.same g1, o.same g2, t + m + 1 + k + 1, by omega, g4, fun e he => ?_⟩)
  rcases List.mem_cons.mp he with he | he
  · rw [he]; exact ⟨k, by show k ≤ N + N' + 1; omega, by show t + m + 1 + k < t + m + 1 + k + 1; omega, g5⟩
  · obtain ⟨m', y1, y2, y3⟩ := h e he
    exact ⟨m', y1, by omega, y3.keep y2 g3⟩
theorem lg_sign {i a N : Nat} {v : Int} (hk : RefS K M) (hp : RefP (H0 M) M) (L : Lg M H0 H T l) (hi : l[i]? = some (a, N, v)) (hT : T ≤ 20000) (hq : q v.sign H) : Ci mX12_sign d [(2, (M : Int)), (0, (a : Int))] K H q := by
  obtain ⟨f, o, t, ht, e, h⟩ := L
  obtain ⟨n, n1, n2, n3⟩ := h _ (List.mem_of_getElem? hi)
  dsimp only at n1 n2 n3
  exact sp_X12_sign hk (hp.cong [2] rfl o) (by omega) n3 hq
theorem sign_neg_iff (v : Int) : v.sign < 0 ↔ v < 0 := by
  rcases sign_cases v with ⟨a, b⟩ | ⟨a, b⟩ | ⟨a, b⟩ <;> omega
theorem sp_X12_less3 {a b c e : Int} (hk : RefS K M) (hp : RefP (H M) M) (ha : a ≠ -9223372036854775808) (hb : b ≠ -9223372036854775808) (hc : c ≠ -9223372036854775808) (he : e ≠ -9223372036854775808)
    (hq : ∀ H', FC M [0, 1] H H' → FO [2] (H M) (H' M) → (∃ t : Nat, t ≤ 60 ∧ H' M 2 = (t : Int)) → q (if a * e < c * b then 1 else 0) H') : Ci mX12_less3 (d + 4) [(2, (M : Int)), (1, a), (1, b), (1, c), (1, e)] K H q := by
  refine eX12_less3 fun _ _ _ _ _ => bX12_less3_0 ?_
  simp only [Int.toNat_natCast, Option.some.injEq, Prod.mk.injEq, true_and, and_true, exists_eq_left', hk.k0]
  refine ⟨by omega, fun H1 e1 => ?_⟩
  have f1 : FC M [0, 1] H H1 := by rw [e1]; exact FC.up0 rfl
  have o1 : FO [2] (H M) (H1 M) := by rw [e1, upA_same]; exact FO.up rfl
  have t1 : H1 M 2 = ((0 : Nat) : Int) := by rw [e1, upA_same, up1_same]; rfl
  have hp1 := hp.cong [2] rfl o1
  refine lg_whole hk hp1 (Lg.nil (T := 0) t1 (Nat.le_refl _)) (by decide) ha fun H2 x2 L2 => ?_
  refine lg_whole hk hp1 L2 (by decide) he fun H3 x3 L3 => ?_
  refine lg_product hk hp1 L3 (i := 1) (j := 0) rfl rfl (by decide) fun H4 x4 L4 => ?_
  refine lg_whole hk hp1 L4 (by decide) hc fun H5 x5 L5 => ?_
  refine lg_whole hk hp1 L5 (by decide) hb fun H6 x6 L6 => ?_
  refine lg_product hk hp1 L6 (i := 1) (j := 0) rfl rfl (by decide) fun H7 x7 L7 => ?_
  refine lg_less hk hp1 L7 (i := 3) (j := 0) rfl rfl (by decide) fun H8 x8 L8 => ?_
  refine lg_sign hk hp1 L8 (i := 0) rfl (by decide) ?_
  have qq := hq H8 (f1.same L8.1) (o1.same L8.2.1) (by
    obtain ⟨-, -, t, ht, et, -⟩ := L8
    exact ⟨t, Nat.le_trans ht (by decide), et⟩)
  rw [sign_neg_iff]
  refine ⟨fun g => ?_, fun g => ?_⟩
  · rw [if_neg (by omega)] at qq; exact qq
  · rw [if_pos (by omega)] at qq; exact qq
end Lgs
