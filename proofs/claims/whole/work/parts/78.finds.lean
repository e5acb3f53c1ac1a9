/-! the reference: keep, held, finds -/
theorem BN.move {m m' : Nat → Int} {a a' n : Nat} {v : Int} (h : BN m a n v) (e : ∀ j, j ≤ n → m' (a' + j) = m (a + j)) : BN m' a' n v := by
  obtain ⟨h1, h2, h3, h4⟩ := h
  have ed : ∀ j, j < n → dgs m' a' j = dgs m a j := fun j hj => by
    unfold dgs
    rw [Nat.add_assoc, Nat.add_assoc]
    exact e (1 + j) (by omega)
  exact ⟨fun j hj => by rw [ed j hj]; exact h1 j hj, by rw [e n (by omega)]; exact h2, by rw [vB_congr ed]; exact h3, by have := e 0 (by omega); simp only [Nat.add_zero] at this; rw [this]; exact h4⟩
section RfF
variable {d : Nat} {K : Shp} {H G : Mem} {X M c : Nat} {nb nr sx ld : Nat → Nat}
set_option maxHeartbeats 1000000 in
theorem sp_X12_keep {q : Mem → Prop} {p a n : Nat} {pI v : Int} (hk : RefS K M) (hp : RefP (G M) M) (hpI : pI = (p : Int)) (p2 : p < 2) (ha : a + n < 20000) (hn : n ≤ 23) (hv : BN (G (M + 1)) a n v)
    (hq : ∀ G', FC M [26] G G' → (∀ j, j < 24 * p ∨ 24 * p + n < j → G' (M + 26) j = G (M + 26) j) → BN (G' (M + 26)) (24 * p) n v → q G') : Cv mX12_keep (d + 1) [(2, (M : Int)), (0, pI), (0, (a : Int))] K G q := by
  have loop : ∀ (m k : Nat), k + m = n + 1 → ∀ G1 : Mem, FC M [26] G G1 → (∀ j, j < 24 * p ∨ 24 * p + n < j → G1 (M + 26) j = G (M + 26) j) → (∀ j, j < k → G1 (M + 26) (24 * p + j) = G (M + 1) (a + j)) → FX12_keep_2 d K G1 q (M : Int) pI (a : Int) (k : Int) := by
    intro m
    induction m with
    | zero =>
      intro k hkm G1 f g1 g2
      refine bX12_keep_2 ?_
      simp only [Int.toNat_natCast, Option.some.injEq, Prod.mk.injEq, true_and, and_true, exists_eq_left', hk.k0]
      refine ⟨by omega, sp_X12_places hk (by rw [f.self rfl]; exact hp) ha (by rw [f.at 1 rfl]; exact hv) ?_⟩
      exact ⟨fun _ => hq G1 f g1 (hv.move (fun j hj => g2 j (by omega))), fun g => by omega⟩
    | succ m ih =>
      intro k hkm G1 f g1 g2
      have hp1 : RefP (G1 M) M := by rw [f.self rfl]; exact hp
      have i1 : 24 * pI + (k : Int) = ((24 * p + k : Nat) : Int) := by omega
      have i2 : (a : Int) + (k : Int) = ((a + k : Nat) : Int) := by omega
      refine bX12_keep_2 ?_
      simp only [Int.toNat_natCast, Option.some.injEq, Prod.mk.injEq, true_and, and_true, exists_eq_left', hk.k0]
      refine ⟨by omega, sp_X12_places hk hp1 ha (by rw [f.at 1 rfl]; exact hv) ?_⟩
      simp only [Int.toNat_natCast, Option.some.injEq, Prod.mk.injEq, true_and, and_true, exists_eq_left', i1, i2, hp1.p1, hk.k1, hp1.p49, hk.k26]
      refine ⟨fun g => by omega, fun _ => ⟨⟨by omega, by omega⟩, ⟨by omega, by omega⟩, ⟨by omega, by omega⟩, by omega, by omega, by omega, by omega, by omega, by omega, fun H' e' => ⟨⟨by omega, by omega⟩, ih (k + 1) (by omega) H' (by rw [e']; exact f.same (FC.up rfl)) (fun j hj => ?_) (fun j hj => ?_)⟩⟩⟩
      · rw [e', upA_same, up1_ne (by omega)]; exact g1 j hj
      · rw [e', upA_same]
        by_cases ej : j = k
        · subst ej; rw [up1_same, f.at 1 rfl]
        · rw [up1_ne (by omega)]; exact g2 j (by omega)
  refine eX12_keep fun _ _ _ => bX12_keep_0 ?_
  exact loop (n + 1) 0 (by omega) G FC.rf (fun _ _ => rfl) (fun j hj => absurd hj (by omega))
set_option maxHeartbeats 1000000 in
theorem sp_X12_held {q : Int → Mem → Prop} {p t n : Nat} {pI v : Int} (hk : RefS K M) (hp : RefP (G M) M) (hpI : pI = (p : Int)) (p2 : p < 2) (ht : G M 2 = (t : Int)) (h0 : t + n + 1 ≤ 20000) (hn : n ≤ 23) (hv : BN (G (M + 26)) (24 * p) n v) (v0 : 0 ≤ v)
    (hq : ∀ G', Got M G G' t n v → q (t : Int) G') : Ci mX12_held (d + 1) [(2, (M : Int)), (0, pI)] K G q := by
  have i0 : 24 * pI = ((24 * p : Nat) : Int) := by omega
  have hc : G (M + 26) (24 * p) = (n : Int) := by rw [hv.2.2.2, if_neg (by omega)]
  have loop : ∀ (m k : Nat), k + m = n + 1 → ∀ G1 : Mem, FC M [0, 1] G G1 → FO [2] (G M) (G1 M) → G1 M 2 = ((t + n + 1 : Nat) : Int) → (∀ j, j < t → G1 (M + 1) j = G (M + 1) j) → (∀ j, j < k → G1 (M + 1) (t + j) = G (M + 26) (24 * p + j)) → FX12_held_19 d K G1 q (M : Int) pI (n : Int) (t : Int) (k : Int) := by
    intro m
    induction m with
    | zero =>
      intro k hkm G1 f o e g1 g2
      refine bX12_held_19 ?_
      exact ⟨fun _ => hq G1 ⟨f, o, e, g1, hv.move (fun j hj => g2 j (by omega))⟩, fun g => by omega⟩
    | succ m ih =>
      intro k hkm G1 f o e g1 g2
      have hp1 : RefP (G1 M) M := hp.cong [2] rfl o
      have i1 : 24 * pI + (k : Int) = ((24 * p + k : Nat) : Int) := by omega
      have i2 : (t : Int) + (k : Int) = ((t + k : Nat) : Int) := by omega
      refine bX12_held_19 ?_
      simp only [Int.toNat_natCast, Option.some.injEq, Prod.mk.injEq, true_and, and_true, exists_eq_left', i1, i2, hk.k0, hp1.p1, hk.k1, hp1.p49, hk.k26]
      refine ⟨fun g => by omega, fun _ => ⟨by omega, ⟨by omega, by omega⟩, ⟨by omega, by omega⟩, ⟨by omega, by omega⟩, by omega, by omega, by omega, by omega, by omega, by omega, fun H' e' => ⟨⟨by omega, by omega⟩, ih (k + 1) (by omega) H' (by rw [e']; exact f.same (FC.up rfl)) (by rw [e', upA_ne (by omega)]; exact o) (by rw [e', upA_ne (by omega)]; exact e) (fun j hj => ?_) (fun j hj => ?_)⟩⟩⟩
      · rw [e', upA_same, up1_ne (by omega)]; exact g1 j hj
      · rw [e', upA_same]
        by_cases ej : j = k
        · subst ej; rw [up1_same, f.at 26 rfl]
        · rw [up1_ne (by omega)]; exact g2 j (by omega)
  refine eX12_held fun _ _ => bX12_held_0 ?_
  simp only [Int.toNat_natCast, Option.some.injEq, Prod.mk.injEq, true_and, and_true, exists_eq_left', hk.k0, i0, hp.p49, hk.k26, hc]
  refine ⟨by omega, ⟨by omega, by omega⟩, by omega, by omega, by omega, sp_X12_room (t := t) (n := n) hk ht (by omega) ?_⟩
  intro H5 e5
  exact loop (n + 1) 0 (by omega) H5 (by rw [e5]; exact FC.up0 rfl) (by rw [e5, upA_same]; exact FO.up rfl) (by rw [e5, upA_same, up1_same]) (fun j _ => by rw [e5, upA_ne (by omega)]) (fun j hj => absurd hj (by omega))
theorem lg_held {q : Int → Mem → Prop} {H0 : Mem} {T p n N : Nat} {l : List (Nat × Nat × Int)} {pI v : Int} (hk : RefS K M) (hp : RefP (H0 M) M) (L : Lg M H0 H T l) (hpI : pI = (p : Int)) (p2 : p < 2) (hT : T + N + 1 ≤ 20000) (hn : n ≤ N) (hN : N ≤ 23) (hv : BN (H0 (M + 26)) (24 * p) n v) (v0 : 0 ≤ v)
    (hq : ∀ H' (a : Nat), Lg M H0 H' (T + N + 1) ((a, N, v) :: l) → q (a : Int) H') : Ci mX12_held (d + 1) [(2, (M : Int)), (0, pI)] K H q := by
  have e26 := L.fc 26 rfl
  obtain ⟨f, o, t, ht, e, h⟩ := L
  exact sp_X12_held hk (hp.cong [2] rfl o) hpI p2 e (by omega) (by omega) (by rw [e26]; exact hv) v0 (fun H' g => hq H' t (lg_add f o ht h hn g))
/-- as RI, with what finds keeps -/
def RI2 (M : Nat) (H G : Mem) : Prop := FC M [0, 1, 14, 26] H G ∧ FO (50 :: rfL) (H M) (G M)
theorem RI2.rf : RI2 M H H := ⟨FC.rf, FO.rf⟩
theorem RI2.tr {G' : Mem} {l1 l2 : List Nat} (h : RI2 M H G) (f : FC M l1 G G') (o : FO l2 (G M) (G' M)) (e1 : l1.all (fun k => [0, 1, 14, 26].contains k) = true) (e2 : l2.all (fun k => (50 :: rfL).contains k) = true) : RI2 M H G' := ⟨h.1.same (f.wide e1), h.2.same (o.wide e2)⟩
theorem hgF_ref {hi : Int} {j : Nat} (hM : M = X + 123) (f : FC M [0, 1, 14, 26] H G) (h4 : sx j < 4) : hgF G X nb nr sx hi j = hgF H X nb nr sx hi j := bendP_keep (fun i hi' => f.lt (by omega))
theorem hogV_congr {k : Nat} {h0 h1 : Int} {hg hg' : Nat → Int × Int} (hc : 1 ≤ c) (hk : k ≤ c) (e : ∀ j, j < c → hg' j = hg j) : hogV c h0 h1 hg' k = hogV c h0 h1 hg k := by
  unfold hogV
  split
  · rfl
  · split
    · exact e 0 (by omega)
    · split
      · exact e _ (by omega)
      · rw [e (k - 1) (by omega), e k (by omega)]
theorem tV_ref {n l : Nat} (E : RefE K H X M c nb nr sx ld) (hM : M = X + 123) (f : FC M [0, 1, 14, 26] H G) (hn : n < c) : tV G X c nb nr sx ld n l = tV H X c nb nr sx ld n l := by
  have hc := E.2.2.2.1
  have c5 := hc.2.2
  have e : ∀ hi j, j < c → hgF G X nb nr sx hi j = hgF H X nb nr sx hi j := fun hi j hj => hgF_ref hM f (E.2.2.2.2.1 j hj).2.1
  unfold tV timV
  rw [f.lt (x := X + 23) (by omega), f.lt (x := X + 54 + 3 * n) (by omega), f.lt (x := X + 54 + 3 * n + 1) (by omega), f.lt (x := X + 54 + 3 * n + 2) (by omega), e 1 n hn, hogV_congr hc.2.1 (by omega) (e 0), hogV_congr hc.2.1 (by omega) (e 0)]
theorem RefE.keep (E : RefE K H X M c nb nr sx ld) (hM : M = X + 123) (r : RI2 M H G) : RefE K G X M c nb nr sx ld := by
  obtain ⟨hk, hp, hs, hc, hsp, he⟩ := E
  have c5 := hc.2.2
  refine ⟨hk, hp.cong (50 :: rfL) rfl r.2, fun i hi => ?_, ⟨(r.2 37 rfl).trans hc.1, hc.2⟩, fun j hj => ?_, fun e h2 => ?_⟩
  · obtain ⟨a1, a2, a3⟩ := hs i hi
    have s0 := r.1.lt (x := X + 83 + 10 * i) (by omega)
    refine ⟨a1.keepc (fun j hj => r.1.lt (by omega)), ?_, ?_⟩
    · have := a2.keep r.1 rfl rfl rfl rfl rfl rfl rfl
      rw [s0, r.1.lt (x := X + 83 + 10 * i + 1) (by omega), r.1.lt (x := X + 83 + 10 * i + 2) (by omega), r.1.lt (x := X + 83 + 10 * i + 3) (by omega), r.1.lt (x := X + 83 + 10 * i + 4) (by omega)]
      exact this
    · rw [r.1.at 13 rfl, r.1.lt (x := X + 83 + 10 * i + 5) (by omega)]; exact a3
  · obtain ⟨a1, a2, a3⟩ := hsp j hj
    refine ⟨by rw [r.1.at 21 rfl]; exact a1, a2, ?_⟩
    unfold SpanOk at *
    rw [r.1.at 20 rfl, r.1.at 21 rfl, r.1.at 22 rfl, r.1.at 23 rfl, r.1.at 24 rfl, r.1.lt (x := X + 54 + 3 * j) (by omega), r.1.lt (x := X + 54 + 3 * j + 1) (by omega), r.1.lt (x := X + 54 + 3 * j + 2) (by omega)]
    exact a3
  · rw [r.1.at 25 rfl, r.1.lt (x := X + 23) (by omega)]; exact he e h2
theorem tim_nn {S D T1 C1 T2 C2 L x : Int} (h1 : 0 ≤ S) (h2 : 0 ≤ D) (h3 : 0 ≤ T1) (h4 : 0 ≤ C1) (h5 : 0 ≤ T2) (h6 : 0 ≤ C2) (h7 : 0 ≤ L) (h8 : 0 ≤ x) (h9 : x ≤ L) : 0 ≤ timT S D T1 C1 T2 C2 L x := by
  unfold timT
  have a1 := Int.mul_nonneg (Int.mul_nonneg h1 h7) h4
  have a2 := Int.mul_nonneg (Int.mul_nonneg h3 (show 0 ≤ L - x by omega)) h2
  have a3 := Int.mul_nonneg (show 0 ≤ S * L * C1 + T1 * (L - x) * D by omega) h6
  have a4 := Int.mul_nonneg (Int.mul_nonneg h5 h8) (Int.mul_nonneg h2 h4)
  omega
theorem tV_nn {n l : Nat} (E : RefE K H X M c nb nr sx ld) (hn : n < c) (hl : l < ld n) : 0 ≤ (tV H X c nb nr sx ld n l).1 ∧ 0 < (tV H X c nb nr sx ld n l).2 := by
  have bS := E.hb 1 n hn
  have bH1 := hog_bd2 E (k := n) (by omega)
  have bH2 := hog_bd2 E (k := n + 1) (by omega)
  have sp := E.sp hn
  have F := free_pos sp hl
  have g := (sp.2.2.2 l hl).1
  have g2 := sp.2.2.1
  refine ⟨tim_nn bS.2.1 (Int.le_of_lt bS.1.1) bH1.2.1 (Int.le_of_lt bH1.1.1) bH2.2.1 (Int.le_of_lt bH2.1.1) (by omega) (by omega) (by omega), ?_⟩
  exact Int.mul_pos (Int.mul_pos (Int.mul_pos bS.1.1 bH1.1.1) bH2.1.1) F
theorem Lg.sub {H0 : Mem} {T T' : Nat} {l l' : List (Nat × Nat × Int)} (L : Lg M H0 H T l) (hT : T ≤ T') (hl : ∀ e, e ∈ l' → e ∈ l) : Lg M H H T' l' := by
  obtain ⟨-, -, t, ht, et, h⟩ := L
  exact ⟨FC.rf, FO.rf, t, Nat.le_trans ht hT, et, fun e he => h e (hl e he)⟩
theorem UpLow.more {T T' : Nat} {u w : Int} (U : UpLow M T G u w) (hT : T ≤ T') : UpLow M T' G u w := by
  obtain ⟨a, b, ea, eb, L⟩ := U
  exact ⟨a, b, ea, eb, L.sub hT (fun _ h => h)⟩
theorem fn_put {q : Mem → Prop} {u w v : Int} (hk : RefS K M) (hp : RefP (G M) M) {T : Nat} (U : UpLow M T G u w) (hT : T ≤ 19000)
    (hq : ∀ G', FC M [0, 26] G G' → FO [50] (G M) (G' M) → G' M 50 = v → (∃ n, n ≤ 14 ∧ BN (G' (M + 26)) (24 * 0) n u) → (∃ n, n ≤ 12 ∧ BN (G' (M + 26)) (24 * 1) n w) → q G') :
    ∀ H16 : Mem, H16 = upA G M (up1 (G M) 50 v) → Cv mX12_keep (d + 1) [(2, (M : Int)), (0, 0), (0, (H16 M 47))] K H16 (fun H17 => Cv mX12_keep (d + 1) [(2, (M : Int)), (0, 1), (0, (H17 M 48))] K H17 (fun H19 => q H19)) := by
  intro H1 e1
  obtain ⟨a, b, ea, eb, -, -, t, ht, et, h⟩ := U
  obtain ⟨m, m1, m2, m3⟩ := h _ (List.mem_of_getElem? (i := 0) rfl)
  obtain ⟨n, n1, n2, n3⟩ := h _ (List.mem_of_getElem? (i := 1) rfl)
  dsimp only at m1 m2 m3 n1 n2 n3
  clear h
  have v1 : H1 M = up1 (G M) 50 v := by rw [e1, upA_same]
  have o1 : FO [50] (G M) (H1 M) := by rw [v1]; exact FO.up rfl
  have c1 : FC M [0, 26] G H1 := by rw [e1]; exact FC.up0 rfl
  have x1 : H1 (M + 1) = G (M + 1) := c1.at 1 rfl
  have y50 : H1 M 50 = v := by rw [v1, up1_same]
  clear e1 v1
  rw [o1 47 rfl, ea]
  refine sp_X12_keep (p := 0) (n := n) hk (hp.cong [50] rfl o1) rfl (by decide) (by omega) (by omega) (by rw [x1]; exact n3) ?_
  intro H2 f2 g2 b2
  have s2 : H2 M = H1 M := f2.self rfl
  rw [s2, o1 48 rfl, eb]
  refine sp_X12_keep (p := 1) (n := m) hk (by rw [s2]; exact hp.cong [50] rfl o1) rfl (by decide) (by omega) (by omega) (by rw [f2.at 1 rfl, x1]; exact m3) ?_
  intro H3 f3 g3 b3
  have s3 : H3 M = H2 M := f3.self rfl
  refine hq H3 ((c1.same (f2.wide rfl)).same (f3.wide rfl)) (by rw [s3, s2]; exact o1) (by rw [s3, s2]; exact y50) ⟨n, n1, b2.move (fun j hj => g3 _ (by omega))⟩ ⟨m, m1, b3⟩
/-- what finds keeps -/
def FnI (K : Shp) (H G : Mem) (X M c : Nat) (nb nr sx ld : Nat → Nat) (a b : Nat) : Prop := RI2 M H G ∧
  ((G M 50 = -1 ∧ ∀ i k, ¬ Vis ld a b i k) ∨ ∃ i k, LeastIn (tV H X c nb nr sx ld) ld a b i k ∧ i < c ∧ G M 50 = 10 * (i : Int) + (k : Int) ∧ (∃ n, n ≤ 14 ∧ BN (G (M + 26)) (24 * 0) n (tV H X c nb nr sx ld i k).1) ∧ ∃ n, n ≤ 12 ∧ BN (G (M + 26)) (24 * 1) n (tV H X c nb nr sx ld i k).2)
set_option maxHeartbeats 2000000 in
theorem fn_in {q : Int → Mem → Prop} {a : Nat} (E : RefE K H X M c nb nr sx ld) (hM : M = X + 123) (ha : a < c) (ho : ∀ G', FnI K H G' X M c nb nr sx ld (a + 1) 0 → FX12_finds_7 (d + 7) K G' q (M : Int) ((a + 1 : Nat) : Int)) :
    ∀ m b G1, ld a - b = m → b ≤ ld a → FnI K H G1 X M c nb nr sx ld a b → FX12_finds_17 (d + 7) K G1 q (M : Int) (a : Int) (b : Int) := by
  have hk := E.1
  have c5 := E.2.2.2.1.2.2
  obtain ⟨-, -, so⟩ := E.2.2.2.2.1 a ha
  have b5 := so.2.2.2.2.1
  have ld2 := so.2.2.2.2.2.2.1
  clear so
  intro m
  induction m with
  | zero =>
    intro b G1 hm hb L
    have E1 := E.keep hM L.1
    refine bX12_finds_17 ?_
    simp only [Int.toNat_natCast, Option.some.injEq, Prod.mk.injEq, true_and, and_true, exists_eq_left', hk.k0, E1.2.1.p33, hk.k22, L.1.1.at 22 rfl, b5]
    refine ⟨by omega, by omega, by omega, by omega, fun _ => ⟨⟨by omega, by omega⟩, ho G1 ⟨L.1, ?_⟩⟩, fun g => by omega⟩
    rcases L.2 with ⟨e, no⟩ | ⟨i, k, lst, rest⟩
    · exact Or.inl ⟨e, fun i k hv => no i k (hv.row (by omega))⟩
    · exact Or.inr ⟨i, k, lst.row (by omega), rest⟩
  | succ m ih =>
    intro b G1 hm hb L
    have E1 := E.keep hM L.1
    have nn : ∀ i k, Vis ld a (b + 1) i k → 0 ≤ (tV H X c nb nr sx ld i k).1 ∧ 0 < (tV H X c nb nr sx ld i k).2 := fun i k hv => tV_nn E (by unfold Vis at hv; omega) hv.1
    refine bX12_finds_17 ?_
    simp only [Int.toNat_natCast, Option.some.injEq, Prod.mk.injEq, true_and, and_true, exists_eq_left', hk.k0, E1.2.1.p33, hk.k22, L.1.1.at 22 rfl, b5]
    refine ⟨by omega, by omega, by omega, by omega, fun g => by omega, fun _ H2 e2 => ?_⟩
    have v2 : H2 M = up1 (G1 M) 2 0 := by rw [e2, upA_same]
    have o2 : FO [2] (G1 M) (H2 M) := by rw [v2]; exact FO.up rfl
    have f2 : FC M [0] G1 H2 := by rw [e2]; exact FC.up0 rfl
    have t2 : ∃ t : Nat, t ≤ 60 ∧ H2 M 2 = (t : Int) := ⟨0, by omega, by rw [v2, up1_same]; rfl⟩
    have R2 : RI2 M H H2 := L.1.tr f2 o2 rfl rfl
    clear e2 v2
    refine sp_X12_timesOf (E.keep hM R2) RI.rf t2 ha (by omega) ?_
    intro G3 r3 U
    rw [tV_ref E hM R2.1 ha] at U
    have R3 : RI2 M H G3 := R2.tr r3.1 r3.2 rfl rfl
    have p3 : RefP (G3 M) M := r3.p (E.keep hM R2).2.1
    have z50 : G3 M 50 = G1 M 50 := (r3.2 50 rfl).trans (o2 50 rfl)
    have z26 : G3 (M + 26) = G1 (M + 26) := (r3.1.at 26 rfl).trans (f2.at 26 rfl)
    have nxt : ∀ G', FnI K H G' X M c nb nr sx ld a (b + 1) → (inI ((b : Int) + 1)) ∧ FX12_finds_17 (d + 7) K G' q (M : Int) (a : Int) ((b : Int) + 1) := fun G' g => ⟨⟨by omega, by omega⟩, ih (b + 1) G' (by omega) (by omega) g⟩
    have put : ∀ G4, RI2 M H G4 → UpLow M 1000 G4 (tV H X c nb nr sx ld a b).1 (tV H X c nb nr sx ld a b).2 → LeastIn (tV H X c nb nr sx ld) ld a (b + 1) a b → ∀ H16 : Mem, H16 = upA G4 M (up1 (G4 M) 50 (10 * (a : Int) + (b : Int))) → Cv mX12_keep (d + 7) [(2, (M : Int)), (0, 0), (0, (H16 M 47))] K H16 (fun H17 => Cv mX12_keep (d + 7) [(2, (M : Int)), (0, 1), (0, (H17 M 48))] K H17 (fun H19 => (inI ((b : Int) + 1)) ∧ FX12_finds_17 (d + 7) K H19 q (M : Int) (a : Int) ((b : Int) + 1))) := by
      intro G4 R4 U4 lst
      refine fn_put hk (E.keep hM R4).2.1 U4 (by decide) ?_
      intro G5 f5 o5 e5 k1 k2
      exact nxt G5 ⟨R4.tr f5 o5 rfl rfl, Or.inr ⟨a, b, lst, ha, e5, k1, k2⟩⟩
    rcases L.2 with ⟨e0, no⟩ | ⟨i, k, lst, ic, e0, ⟨n, n1, n2⟩, n', n3, n4⟩
    · refine ⟨fun _ => ⟨⟨by omega, by omega⟩, ⟨by omega, by omega⟩, put G3 R3 (U.more (by decide)) (LeastIn.first (by omega) no)⟩, fun g => absurd (z50.trans e0) g⟩
    · have va : Vis ld a (b + 1) a b := ⟨by omega, by omega⟩
      have ni := nn i k lst.1.mono
      refine ⟨fun g => by omega, fun _ => ?_⟩
      obtain ⟨a', b', ea, eb, L3⟩ := id U
      rw [ea]
      refine lg_held (p := 1) (N := 12) hk p3 L3 rfl (by decide) (by decide) n3 (by decide) (by rw [z26]; exact n4) (Int.le_of_lt ni.2) fun G4 x4 L4 => ?_
      refine lg_product hk p3 L4 (i := 2) (j := 0) rfl rfl (by decide) fun G5 x5 L5 => ?_
      refine lg_held (p := 0) (N := 14) hk p3 L5 rfl (by decide) (by decide) n1 (by decide) (by rw [z26]; exact n2) ni.1 fun G6 x6 L6 => ?_
      rw [L6.fo 48 rfl, eb]
      refine lg_product hk p3 L6 (i := 0) (j := 3) rfl rfl (by decide) fun G7 x7 L7 => ?_
      refine lg_less hk p3 L7 (i := 2) (j := 0) rfl rfl (by decide) fun G8 x8 L8 => ?_
      refine lg_sign hk p3 L8 (i := 0) rfl (by decide) ?_
      rw [sign_neg_iff]
      have R8 : RI2 M H G8 := R3.tr L8.1 L8.2.1 rfl rfl
      refine ⟨fun g => ⟨⟨by omega, by omega⟩, ⟨by omega, by omega⟩, put G8 R8 ?_ (lst.new (by omega) (fun i k hv => (nn i k hv).2) (by omega))⟩, fun g => nxt G8 ⟨R8, Or.inr ⟨i, k, lst.old (by omega), ic, by rw [L8.fo 50 rfl, z50]; exact e0, ?_⟩⟩⟩
      · refine ⟨a', b', by rw [L8.fo 47 rfl]; exact ea, by rw [L8.fo 48 rfl]; exact eb, L8.sub (by decide) (fun e he => ?_)⟩
        rcases List.mem_cons.mp he with he | he
        · rw [he]; exact List.mem_of_getElem? (i := 5) rfl
        · rcases List.mem_cons.mp he with he | he
          · rw [he]; exact List.mem_of_getElem? (i := 6) rfl
          · exact absurd he (by simp)
      · rw [L8.fc 26 rfl, z26]
        exact ⟨⟨n, n1, n2⟩, n', n3, n4⟩
theorem fn_out {q : Int → Mem → Prop} (E : RefE K H X M c nb nr sx ld) (hM : M = X + 123) (hq : ∀ G', FnI K H G' X M c nb nr sx ld c 0 → (G' M 50 = -1 → q 0 G') ∧ (¬ G' M 50 = -1 → q 1 G')) :
    ∀ m a G1, c - a = m → a ≤ c → FnI K H G1 X M c nb nr sx ld a 0 → FX12_finds_7 (d + 7) K G1 q (M : Int) (a : Int) := by
  have hk := E.1
  intro m
  induction m with
  | zero =>
    intro a G1 hm ha L
    have E1 := E.keep hM L.1
    have ea : a = c := by omega
    have qq := hq G1 (by rw [ea] at L; exact L)
    refine bX12_finds_7 ?_
    simp only [Int.toNat_natCast, Option.some.injEq, Prod.mk.injEq, true_and, and_true, exists_eq_left', hk.k0, E1.2.2.2.1.1]
    exact ⟨by omega, fun _ => qq, fun g => by omega⟩
  | succ m ih =>
    intro a G1 hm ha L
    have E1 := E.keep hM L.1
    refine bX12_finds_7 ?_
    simp only [Int.toNat_natCast, Option.some.injEq, Prod.mk.injEq, true_and, and_true, exists_eq_left', hk.k0, E1.2.2.2.1.1]
    exact ⟨by omega, fun g => by omega, fun _ => fn_in E hM (by omega) (fun G' L' => ih (a + 1) G' (by omega) (by omega) L') _ 0 G1 rfl (by omega) L⟩
theorem sp_X12_finds {q : Int → Mem → Prop} (E : RefE K H X M c nb nr sx ld) (hM : M = X + 123) (hq : ∀ G', FnI K H G' X M c nb nr sx ld c 0 → (G' M 50 = -1 → q 0 G') ∧ (¬ G' M 50 = -1 → q 1 G')) : Ci mX12_finds (d + 8) [(2, (M : Int))] K H q := by
  have hk := E.1
  refine eX12_finds fun _ => bX12_finds_0 ?_
  simp only [Int.toNat_natCast, Option.some.injEq, Prod.mk.injEq, true_and, and_true, exists_eq_left', hk.k0]
  refine ⟨by omega, fun H3 e3 => ?_⟩
  refine fn_out E hM hq _ 0 H3 rfl (by omega) ⟨RI2.rf.tr (l1 := [0]) (l2 := [50]) (by rw [e3]; exact FC.up0 rfl) (by rw [e3, upA_same]; exact FO.up rfl) rfl rfl, Or.inl ⟨by rw [e3, upA_same, up1_same], fun i k hv => ?_⟩⟩
  unfold Vis at hv
  omega
theorem sp_X12_finds0 {q : Int → Mem → Prop} (hk : RefS K M) (h0 : H M 37 = 0) (hq : ∀ G', G' = upA H M (up1 (H M) 50 (-1)) → q 0 G') : Ci mX12_finds (d + 1) [(2, (M : Int))] K H q := by
  refine eX12_finds fun _ => bX12_finds_0 ?_
  simp only [Int.toNat_natCast, Option.some.injEq, Prod.mk.injEq, true_and, and_true, exists_eq_left', hk.k0]
  refine ⟨by omega, fun H3 e3 => bX12_finds_7 ?_⟩
  have z37 : H3 M 37 = 0 := by rw [e3, upA_same, up1_ne (by decide)]; exact h0
  have z50 : H3 M 50 = -1 := by rw [e3, upA_same, up1_same]
  simp only [Int.toNat_natCast, Option.some.injEq, Prod.mk.injEq, true_and, and_true, exists_eq_left', hk.k0, z37, z50]
  exact ⟨by omega, fun _ => ⟨fun _ => hq H3 e3, fun g => absurd trivial g⟩, fun g => by omega⟩
end RfF
