/-! the reference: choose, whole -/
section RCh2
variable {d : Nat} {K : Shp} {H G : Mem} {M i nb nr np nz : Nat} {f z : Int} {bw bf bt rh st pr pn pm : Nat → Int} {q : Int → Mem → Prop}
/-- what the loop over the ways keeps -/
def WyI (M nb nr np nz : Nat) (f z : Int) (bw bf bt rh st pr pn pm : Nat → Int) (H G : Mem) (way : Nat) : Prop := CfF M H G ∧ (∀ k, nr ≤ k → k < 6 → G (M + 14) k = 0) ∧
  ((G M 30 = -1 ∧ ∀ w, w < way → ¬ safeW (fun us n m => bearB f z bw bf bt nb rh us nr n m) np pn pm (usW st nz nr w)) ∨
   ∃ w, BestTo (fun us n m => bearB f z bw bf bt nb rh us nr n m) np pn pm nz st pr nr way w ∧ G M 30 = prW pr nz nr w ∧ ∀ k, k < nr → G (M + 19) k = (dgt (nz + 1) nr w k : Int) - 1)
set_option maxHeartbeats 2000000 in
theorem ch_65 (E : CfE K H M i nb nr np nz f z bw bf bt rh st pr pn pm)
    (fin : ∀ G', WyI M nb nr np nz f z bw bf bt rh st pr pn pm H G' ((nz + 1) ^ nr) → (G' M 30 = -1 → q 0 G') ∧ (¬ G' M 30 = -1 → q 1 G')) :
    ∀ m way G1, way + m = (nz + 1) ^ nr → WyI M nb nr np nz f z bw bf bt rh st pr pn pm H G1 way → FX12_choose_65 (d + 4) K G1 q (M : Int) (i : Int) (nr : Int) (((nz + 1) ^ nr : Nat) : Int) (way : Int) := by
  have E0 := E
  obtain ⟨hk, hp, hi, hR, ⟨hf, hz, hB, hRo⟩, hP, z1, z2, z3⟩ := E
  have nr6 := hRo.1
  have pwb := pow_bd (b := nz + 1) (n := nr) (by omega) nr6 (by omega)
  obtain ⟨all, hall⟩ : ∃ a, (nz + 1) ^ nr = a := ⟨_, rfl⟩
  rw [hall] at fin pwb ⊢
  intro m
  induction m with
  | zero =>
    intro way G1 hm I
    have ew : way = all := by omega
    rw [ew] at I ⊢
    have fn := fin G1 I
    refine bX12_choose_65 ?_
    simp only [Int.toNat_natCast, Option.some.injEq, Prod.mk.injEq, true_and, and_true, exists_eq_left', hk.k0]
    exact ⟨fun _ => ⟨by omega, fn⟩, fun g => by omega⟩
  | succ m ih =>
    intro way G1 hm I
    have wb : way < 15625 := by omega
    have E1 := E0.keep I.1
    have el : ∀ k, dgt (nz + 1) nr way k < nz + 1 := fun k => dgt_lt (by omega)
    have prb := fun k hk => (z3 k hk).2.2
    have tb : 0 ≤ prW pr nz nr way ∧ prW pr nz nr way ≤ 10000 * (nr : Int) := prD_bd (c := dgt (nz + 1) nr way) prb (n := nr) (fun k _ => el k)
    have nxt : ∀ G', WyI M nb nr np nz f z bw bf bt rh st pr pn pm H G' (way + 1) → FX12_choose_247 (d + 4) K G' q (M : Int) (i : Int) (nr : Int) (all : Int) (way : Int) := fun G' g => bX12_choose_247 ⟨⟨by omega, by omega⟩, ih (way + 1) G' (by omega) g⟩
    refine bX12_choose_65 ⟨fun g => by omega, fun _ => ⟨⟨by omega, by omega⟩, ?_⟩⟩
    refine ch_83 E1 wb ?_ nr G1 _ _ _ (Nat.le_refl _) (by rw [Nat.sub_self, Nat.pow_zero, Nat.div_one]) (by omega) rfl FC.rf (fun k h1 h2 => absurd h2 (by omega)) I.2.1
    intro G2 F2 u1 u2
    have m2 : G2 M = G1 M := F2.self rfl
    have C2 : CfF M H G2 := ⟨I.1.1.same (F2.wide rfl), by rw [m2]; exact I.1.2⟩
    have E2 := E0.keep C2
    have e19 : G2 (M + 19) = G1 (M + 19) := F2.at 19 rfl
    have S2 : StrB (G2 (M + 14)) 6 := fun k hk => by
      by_cases x : k < nr
      · rw [u1 k x]
        have := chS_bd (f := st) (u := 200) (nz := nz) (by decide) (fun k hk => (z3 k hk).2.1) (el k)
        omega
      · rw [u2 k (by omega) hk]; decide
    have usq : ∀ r, r < nr → G2 (M + 14) r = usW st nz nr way r := fun r hr => by rw [u1 r hr]; unfold usW; rw [if_pos hr]
    have safe_iff : failF (fun k => bearB f z bw bf bt nb rh (G2 (M + 14)) nr (G2 (M + 15) k) (G2 (M + 16) k)) 0 np = -2 ↔ safeW (fun us n m => bearB f z bw bf bt nb rh us nr n m) np pn pm (usW st nz nr way) := by
      rw [failF_iff]
      have one : ∀ k, k < np → bearB f z bw bf bt nb rh (G2 (M + 14)) nr (G2 (M + 15) k) (G2 (M + 16) k) = bearB f z bw bf bt nb rh (usW st nz nr way) nr (pn k) (pm k) := fun k hk => by
        rw [bearB_congr usq, (E2.2.2.2.2.2.1.2.2 k hk).1, (E2.2.2.2.2.2.1.2.2 k hk).2.1]
      constructor
      · intro g p hpp
        have := g p (by omega) (by omega)
        rw [one p hpp] at this
        exact this
      · intro g k _ hk
        have := g k (by omega)
        rw [one k (by omega)]
        exact this
    have go : (¬ safeW (fun us n m => bearB f z bw bf bt nb rh us nr n m) np pn pm (usW st nz nr way) → WyI M nb nr np nz f z bw bf bt rh st pr pn pm H G2 (way + 1)) → (safeW (fun us n m => bearB f z bw bf bt nb rh us nr n m) np pn pm (usW st nz nr way) → BestTo (fun us n m => bearB f z bw bf bt nb rh us nr n m) np pn pm nz st pr nr (way + 1) way) → FX12_choose_179 (d + 4) K G2 q (M : Int) (i : Int) (nr : Int) (all : Int) (way : Int) (prW pr nz nr way) := by
      intro hno hyes
      refine bX12_choose_179 ?_
      simp only [Int.toNat_natCast, Option.some.injEq, Prod.mk.injEq, true_and, and_true, exists_eq_left', hk.k0]
      refine ⟨by omega, sp_X12_fails hk E2.2.1 hi E2.2.2.2.1 hf hz hB hRo S2 u2 E2.2.2.2.2.2.1.1 hP.2.1 (fun p hpp => by have := E2.2.2.2.2.2.1.2.2 p hpp; rw [this.2.1]; exact this.2.2) ?_⟩
      intro G3 F3 O3
      by_cases hs : safeW (fun us n m => bearB f z bw bf bt nb rh us nr n m) np pn pm (usW st nz nr way)
      · rw [safe_iff.mpr hs]
        refine ⟨fun _ H4 e4 => ⟨⟨by omega, by omega⟩, ?_⟩, fun g => absurd rfl g⟩
        have v4 : H4 M = up1 (G3 M) 30 (prW pr nz nr way) := by rw [e4, upA_same]
        have C4 : CfF M H H4 := ⟨(C2.1.same (F3.wide rfl)).same (by rw [e4]; exact FC.up0 rfl), (C2.2.same (O3.wide rfl)).same (by rw [v4]; exact FO.up rfl)⟩
        have x30 : H4 M 30 = prW pr nz nr way := by rw [v4, up1_same]
        have u4 : H4 (M + 14) = G2 (M + 14) := by rw [e4, upA_ne (by omega)]; exact F3.at 14 rfl
        clear e4 v4
        refine ch_207 (E0.keep C4) wb ?_ nr H4 _ _ (Nat.le_refl _) (by rw [Nat.sub_self, Nat.pow_zero, Nat.div_one]) rfl FC.rf (fun k h1 h2 => absurd h2 (by omega))
        intro G5 F5 c5
        exact nxt G5 ⟨⟨C4.1.same (F5.wide rfl), by rw [F5.self rfl]; exact C4.2⟩, by rw [F5.at 14 rfl, u4]; exact u2, Or.inr ⟨way, hyes hs, by rw [F5.self rfl]; exact x30, c5⟩⟩
      · have hn : ¬ failF (fun k => bearB f z bw bf bt nb rh (G2 (M + 14)) nr (G2 (M + 15) k) (G2 (M + 16) k)) 0 np = -2 := fun g => hs (safe_iff.mp g)
        refine ⟨fun g => absurd g hn, fun _ => nxt G3 ?_⟩
        obtain ⟨w1, w2, w3⟩ := hno hs
        refine ⟨⟨C2.1.same (F3.wide rfl), C2.2.same (O3.wide rfl)⟩, by rw [F3.at 14 rfl]; exact u2, ?_⟩
        rw [O3 30 rfl, F3.at 19 rfl]
        exact w3
    rcases I.2.2 with ⟨e30, no⟩ | ⟨w, bt', e30, ch⟩
    · refine ⟨fun _ => go (fun hs => ⟨C2, u2, Or.inl ⟨by rw [m2]; exact e30, fun w hw => ?_⟩⟩) (fun hs => BestTo.first no hs), fun g => absurd (by rw [m2]; exact e30) g⟩
      by_cases x : w = way
      · rw [x]; exact hs
      · exact no w (by omega)
    · have wb0 : 0 ≤ prW pr nz nr w := (prD_bd (c := dgt (nz + 1) nr w) prb (n := nr) (fun k _ => dgt_lt (by omega))).1
      have e30' : G2 M 30 = prW pr nz nr w := by rw [m2]; exact e30
      have keepW : ¬ (safeW (fun us n m => bearB f z bw bf bt nb rh us nr n m) np pn pm (usW st nz nr way) ∧ prW pr nz nr way < prW pr nz nr w) → WyI M nb nr np nz f z bw bf bt rh st pr pn pm H G2 (way + 1) := fun hn => ⟨C2, u2, Or.inr ⟨w, bt'.keep hn, e30', by rw [e19]; exact ch⟩⟩
      refine ⟨fun g => by omega, fun _ => ⟨fun g => nxt G2 (keepW (fun x => by omega)), fun g => go (fun hs => keepW (fun x => hs x.1)) (fun hs => bt'.new hs (by omega))⟩⟩
theorem sp_X12_choose (E : CfE K H M i nb nr np nz f z bw bf bt rh st pr pn pm)
    (h0 : ∀ G', CfF M H G' → (∀ w, w < (nz + 1) ^ nr → ¬ safeW (fun us n m => bearB f z bw bf bt nb rh us nr n m) np pn pm (usW st nz nr w)) → q 0 G')
    (h1 : ∀ G' w, CfF M H G' → IsBest (fun us n m => bearB f z bw bf bt nb rh us nr n m) np pn pm nz st pr nr w → G' M 30 = prW pr nz nr w → (∀ k, k < nr → G' (M + 19) k = (dgt (nz + 1) nr w k : Int) - 1) → q 1 G') : Ci mX12_choose (d + 5) [(2, (M : Int)), (0, (i : Int))] K H q := by
  have E0 := E
  obtain ⟨hk, hp, hi, hR, ⟨hf, hz, hB, hRo⟩, hP, z1, z2, z3⟩ := E
  have nr6 := hRo.1
  have pwb := fun k (hk : k ≤ 6) => pow_bd (b := nz + 1) (n := k) (by omega) hk (by omega)
  refine eX12_choose fun _ _ => bX12_choose_0 ?_
  simp only [Int.toNat_natCast, Option.some.injEq, Prod.mk.injEq, true_and, and_true, exists_eq_left', hk.k0]
  refine ⟨by omega, fun H1 e1 => ?_⟩
  have v1 : H1 M = up1 (H M) 30 (-1) := by rw [e1, upA_same]
  have C1 : CfF M H H1 := ⟨by rw [e1]; exact FC.up0 rfl, by rw [v1]; exact FO.up rfl⟩
  have y30 : H1 M 30 = -1 := by rw [v1, up1_same]
  clear e1 v1
  have E1 := E0.keep C1
  have hR9 := E1.2.2.2.1.2.2.2.1
  simp only [Int.toNat_natCast, Option.some.injEq, Prod.mk.injEq, true_and, and_true, exists_eq_left', E1.2.1.p13, hk.k9, hR9]
  refine ⟨by omega, by omega, by omega, ?_⟩
  have l41 : ∀ m k G1, k + m = 6 → FC M [14] H1 G1 → (∀ j, j < k → G1 (M + 14) j = 0) → FX12_choose_41 (d + 4) K G1 q (M : Int) (i : Int) (nr : Int) (((nz + 1) ^ nr : Nat) : Int) (k : Int) := by
    intro m
    induction m with
    | zero =>
      intro k G1 hm F u
      refine bX12_choose_41 ⟨fun _ => ?_, fun g => by omega⟩
      refine ch_65 E0 ?_ _ 0 G1 (Nat.zero_add _) ⟨⟨C1.1.same (F.wide rfl), by rw [F.self rfl]; exact C1.2⟩, fun k h1 h2 => u k (by omega), Or.inl ⟨by rw [F.self rfl]; exact y30, fun w hw => absurd hw (by omega)⟩⟩
      intro G' I
      refine ⟨fun g => ?_, fun g => ?_⟩
      · rcases I.2.2 with ⟨_, no⟩ | ⟨w, bt', e30, ch⟩
        · exact h0 G' I.1 no
        · have := (prD_bd (pr := pr) (c := dgt (nz + 1) nr w) (fun k hk => (z3 k hk).2.2) (n := nr) (fun k _ => dgt_lt (by omega))).1
          rw [← prW_D] at this
          omega
      · rcases I.2.2 with ⟨e, no⟩ | ⟨w, bt', e30, ch⟩
        · exact absurd e g
        · exact h1 G' w I.1 bt' e30 ch
    | succ m ih =>
      intro k G1 hm F u
      have m1 : G1 M = H1 M := F.self rfl
      refine bX12_choose_41 ?_
      simp only [Int.toNat_natCast, Option.some.injEq, Prod.mk.injEq, true_and, and_true, exists_eq_left', hk.k0, m1, E1.2.1.p18, hk.k14]
      refine ⟨fun g => by omega, fun _ => ⟨by omega, by omega, by omega, by omega, fun H2 e2 => ⟨⟨by omega, by omega⟩, ih (k + 1) H2 (by omega) (by rw [e2]; exact F.same (FC.up rfl)) (fun j hj => ?_)⟩⟩⟩
      rw [e2, upA_same]
      by_cases x : j = k
      · rw [x, up1_same]
      · rw [up1_ne x]; exact u j (by omega)
  have l17 : ∀ m k, k + m = nr → FX12_choose_17 (d + 4) K H1 q (M : Int) (i : Int) (nr : Int) (((nz + 1) ^ k : Nat) : Int) (k : Int) := by
    intro m
    induction m with
    | zero =>
      intro k hm
      have ek : k = nr := by omega
      rw [ek]
      exact bX12_choose_17 ⟨fun _ => l41 6 0 H1 (by omega) FC.rf (fun j hj => absurd hj (by omega)), fun g => by omega⟩
    | succ m ih =>
      intro k hm
      have b1 := pwb (k + 1) (by omega)
      have i1 := ih (k + 1) (by omega)
      have e : (((nz + 1) ^ k : Nat) : Int) * ((nz : Int) + 1) = (((nz + 1) ^ (k + 1) : Nat) : Int) := by
        rw [Nat.pow_succ]
        exact (Int.natCast_mul _ _).symm
      obtain ⟨pk, hpk⟩ : ∃ p, (nz + 1) ^ (k + 1) = p := ⟨_, rfl⟩
      rw [hpk] at b1 e i1
      refine bX12_choose_17 ?_
      simp only [Int.toNat_natCast, Option.some.injEq, Prod.mk.injEq, true_and, and_true, exists_eq_left', hk.k0, E1.2.2.2.2.2.2.1, e]
      exact ⟨fun g => by omega, fun _ => ⟨by omega, ⟨by omega, by omega⟩, ⟨by omega, by omega⟩, ⟨by omega, by omega⟩, i1⟩⟩
  exact l17 nr 0 (by omega)
end RCh2
