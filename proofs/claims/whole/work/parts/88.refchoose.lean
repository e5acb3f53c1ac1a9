/-! the reference: choose -/
theorem failF_ge {p : Nat → Bool} : ∀ (n i : Nat), failF p i n = -2 ∨ 0 ≤ failF p i n
  | 0, _ => Or.inl rfl
  | n + 1, i => by
    simp only [failF]
    split
    · exact failF_ge n (i + 1)
    · exact Or.inr (by omega)
theorem failF_iff {p : Nat → Bool} : ∀ (n i : Nat), failF p i n = -2 ↔ ∀ k, i ≤ k → k < i + n → p k = true
  | 0, i => ⟨fun _ k h1 h2 => absurd h2 (by omega), fun _ => rfl⟩
  | n + 1, i => by
    simp only [failF]
    have ih := failF_iff (p := p) n (i + 1)
    split
    · next h =>
      rw [ih]
      refine ⟨fun g k h1 h2 => ?_, fun g k h1 h2 => g k (by omega) (by omega)⟩
      by_cases e : k = i
      · rw [e]; exact h
      · exact g k (by omega) (by omega)
    · next h =>
      refine ⟨fun g => by omega, fun g => absurd (g i (by omega) (by omega)) h⟩
/-- the reference's surroundings of choose -/
def CfE (K : Shp) (H : Mem) (M i nb nr np nz : Nat) (f z : Int) (bw bf bt rh st pr pn pm : Nat → Int) : Prop := RefS K M ∧ RefP (H M) M ∧ i < 4 ∧ RSec H M i f z bw bf bt nb rh nr ∧ ((1 ≤ f ∧ f ≤ 50) ∧ (0 ≤ z ∧ z ≤ 100) ∧ BandB bw bf bt nb ∧ RodB rh nr) ∧ (H M 27 = (np : Int) ∧ np ≤ 8 ∧ ∀ p, p < np → H (M + 15) p = pn p ∧ H (M + 16) p = pm p ∧ -1000000 ≤ pm p ∧ pm p ≤ 1000000) ∧
  (H M 28 = (nz : Int) ∧ nz ≤ 4 ∧ ∀ k, k < nz → (H (M + 17) k = st k ∧ H (M + 18) k = pr k) ∧ (1 ≤ st k ∧ st k ≤ 200) ∧ 1 ≤ pr k ∧ pr k ≤ 10000)
/-- what choose changes -/
def CfF (M : Nat) (H G : Mem) : Prop := FC M [0, 14, 19] H G ∧ FO [19, 20, 21, 22, 30] (H M) (G M)
section RCh
variable {d : Nat} {K : Shp} {H G : Mem} {M i nb nr np nz : Nat} {f z : Int} {bw bf bt rh st pr pn pm : Nat → Int} {q : Int → Mem → Prop}
theorem CfE.keep (E : CfE K H M i nb nr np nz f z bw bf bt rh st pr pn pm) (r : CfF M H G) : CfE K G M i nb nr np nz f z bw bf bt rh st pr pn pm := by
  obtain ⟨a1, a2, a3, a4, a5, a6, a7⟩ := E
  exact ⟨a1, a2.cong _ rfl r.2, a3, a4.keep r.1 rfl rfl rfl rfl rfl rfl rfl, a5, by rw [r.2 27 rfl, r.1.at 15 rfl, r.1.at 16 rfl]; exact a6, by rw [r.2 28 rfl, r.1.at 17 rfl, r.1.at 18 rfl]; exact a7⟩
theorem pow_bd {b n : Nat} (hb : b ≤ 5) (hn : n ≤ 6) (h0 : 0 < b) : b ^ n ≤ 15625 := by
  have a : b ^ n ≤ 5 ^ n := Nat.pow_le_pow_left hb n
  have c : (5 : Nat) ^ n ≤ 5 ^ 6 := Nat.pow_le_pow_right (by decide) hn
  have e : (5 : Nat) ^ 6 = 15625 := by decide
  omega
theorem div_step {b n r w : Nat} (h : r < n) : w / b ^ (n - (r + 1)) / b = w / b ^ (n - r) := by
  rw [show n - r = n - (r + 1) + 1 by omega, Nat.pow_succ, Nat.div_div_eq_div_mul]
theorem dgt_eq {b n r w : Nat} : dgt b n w r = w / b ^ (n - (r + 1)) % b := by
  unfold dgt
  rw [show n - (r + 1) = n - 1 - r by omega]
theorem tm_nat {a b : Nat} : Int.tmod (a : Int) ((b : Int) + 1) = ((a % (b + 1) : Nat) : Int) := (Int.ofNat_tmod a (b + 1)).symm
theorem td_nat {a b : Nat} : Int.tdiv (a : Int) ((b : Int) + 1) = ((a / (b + 1) : Nat) : Int) := (Int.ofNat_tdiv a (b + 1)).symm
set_option maxHeartbeats 2000000 in
theorem ch_83 {way : Nat} {all : Int} (E : CfE K G M i nb nr np nz f z bw bf bt rh st pr pn pm) (hw : way < 15625)
    (fin : ∀ G', FC M [14] G G' → (∀ k, k < nr → G' (M + 14) k = chS st (dgt (nz + 1) nr way k)) → (∀ k, nr ≤ k → k < 6 → G' (M + 14) k = 0) → (G' M 30 = -1 → FX12_choose_179 d K G' q (M : Int) (i : Int) (nr : Int) all (way : Int) (prW pr nz nr way)) ∧ (¬ G' M 30 = -1 → (¬ prW pr nz nr way < G' M 30 → FX12_choose_247 d K G' q (M : Int) (i : Int) (nr : Int) all (way : Int)) ∧ (prW pr nz nr way < G' M 30 → FX12_choose_179 d K G' q (M : Int) (i : Int) (nr : Int) all (way : Int) (prW pr nz nr way)))) :
    ∀ r G1 v5 v6 v7, r ≤ nr → v5 = ((way / (nz + 1) ^ (nr - r) : Nat) : Int) → v6 = prD pr (dgt (nz + 1) nr way) nr - prD pr (dgt (nz + 1) nr way) r → v7 = (r : Int) - 1 → FC M [14] G G1 → (∀ k, r ≤ k → k < nr → G1 (M + 14) k = chS st (dgt (nz + 1) nr way k)) → (∀ k, nr ≤ k → k < 6 → G1 (M + 14) k = 0) → FX12_choose_83 d K G1 q (M : Int) (i : Int) (nr : Int) all (way : Int) v5 v6 v7 := by
  obtain ⟨hk, hp, hi, hR, ⟨hf, hz, hB, hRo⟩, hP, z1, z2, z3⟩ := E
  have nr6 := hRo.1
  have el : ∀ k, dgt (nz + 1) nr way k < nz + 1 := fun k => dgt_lt (by omega)
  have prb := fun k hk => (z3 k hk).2.2
  have tb := prD_bd (c := dgt (nz + 1) nr way) prb (n := nr) (fun k _ => el k)
  intro r
  induction r with
  | zero =>
    intro G1 v5 v6 v7 hr e5 e6 e7 F u1 u2
    have fn := fin G1 F (fun k hk => u1 k (by omega) hk) u2
    have ev6 : v6 = prW pr nz nr way := by
      rw [e6, prW_D]
      show _ - (0 : Int) = _
      omega
    rw [← ev6] at fn
    refine bX12_choose_83 ?_
    simp only [Int.toNat_natCast, Option.some.injEq, Prod.mk.injEq, true_and, and_true, exists_eq_left', hk.k0]
    exact ⟨fun _ => ⟨by omega, fn⟩, fun g => by omega⟩
  | succ r ih =>
    intro G1 v5 v6 v7 hr e5 e6 e7 F u1 u2
    have m1 : G1 M = G M := F.self rfl
    have b1 := prD_bd (c := dgt (nz + 1) nr way) prb (n := r) (fun k _ => el k)
    have l1 := prD_le prb (m := r + 1) (n := nr) (c := dgt (nz + 1) nr way) (by omega) (fun k _ => el k)
    have sr : prD pr (dgt (nz + 1) nr way) (r + 1) = prD pr (dgt (nz + 1) nr way) r + chS pr (dgt (nz + 1) nr way r) := rfl
    have lw : way / (nz + 1) ^ (nr - (r + 1)) ≤ way := Nat.div_le_self _ _
    have dl := el r
    have d2 := dgt_eq (b := nz + 1) (n := nr) (r := r) (w := way)
    have ds := div_step (b := nz + 1) (n := nr) (r := r) (w := way) (by omega)
    obtain ⟨lft, hlft⟩ : ∃ l, way / (nz + 1) ^ (nr - (r + 1)) = l := ⟨_, rfl⟩
    rw [hlft] at e5 d2 ds lw
    have d3 : lft / (nz + 1) ≤ lft := Nat.div_le_self _ _
    obtain ⟨l2, hl2⟩ : ∃ l, lft / (nz + 1) = l := ⟨_, rfl⟩
    rw [hl2] at d3 ds
    have v7' : v7 = (r : Int) := by omega
    have nx : ∀ H6, H6 = upA G1 (M + 14) (up1 (G1 (M + 14)) r (chS st (dgt (nz + 1) nr way r))) → ∀ v, v = v6 + chS pr (dgt (nz + 1) nr way r) → FX12_choose_83 d K H6 q (M : Int) (i : Int) (nr : Int) all (way : Int) (l2 : Int) v (v7 + -1) := by
      intro H6 e6' v ev
      refine ih H6 _ v _ (by omega) (by rw [ds]) (by omega) (by omega) (by rw [e6']; exact F.same (FC.up rfl)) (fun k h1 h2 => ?_) (fun k h1 h2 => ?_)
      · rw [e6', upA_same]
        by_cases x : k = r
        · rw [x, up1_same]
        · rw [up1_ne x]; exact u1 k (by omega) h2
      · rw [e6', upA_same, up1_ne (by omega)]; exact u2 k h1 h2
    refine bX12_choose_83 ?_
    rw [e5]
    simp only [Int.toNat_natCast, Option.some.injEq, Prod.mk.injEq, true_and, and_true, exists_eq_left', hk.k0, m1, z1, tm_nat, td_nat, hp.p25, hk.k17, hp.p18, F.at 17 rfl]
    rw [← d2, hl2]
    obtain ⟨dg, hdg⟩ : ∃ g, dgt (nz + 1) nr way r = g := ⟨_, rfl⟩
    rw [hdg] at nx dl sr ⊢
    refine ⟨fun g => by omega, fun _ => ⟨by omega, ⟨by omega, by omega⟩, by omega, ⟨by omega, by omega⟩, ⟨by omega, by omega⟩, ⟨by omega, by omega⟩, fun g => ⟨by omega, by omega, by omega, ?_⟩, fun g => ?_⟩⟩
    · have ed : ((dg : Nat) : Int) - 1 = ((dg - 1 : Nat) : Int) := by omega
      have zd := z3 (dg - 1) (by omega)
      have s1 : chS st dg = st (dg - 1) := by unfold chS; rw [if_neg (by omega)]
      have s2 : chS pr dg = pr (dg - 1) := by unfold chS; rw [if_neg (by omega)]
      rw [s1] at nx
      rw [s2] at nx sr
      refine bX12_choose_134 ?_
      simp only [Int.toNat_natCast, Option.some.injEq, Prod.mk.injEq, true_and, and_true, exists_eq_left', hk.k14, ed, zd.1.1, v7']
      refine ⟨by omega, by omega, by omega, fun H6 e6' => ⟨fun _ => ?_, fun g => by omega⟩⟩
      have m6 : H6 M = G M := by rw [e6', upA_ne (by omega)]; exact m1
      have m18 : H6 (M + 18) = G (M + 18) := by rw [e6', upA_ne (by omega)]; exact F.at 18 rfl
      simp only [Int.toNat_natCast, Option.some.injEq, Prod.mk.injEq, true_and, and_true, exists_eq_left', hk.k0, m6, hp.p26, hk.k18, m18, zd.1.2]
      refine ⟨by omega, by omega, by omega, by omega, bX12_choose_153 ⟨⟨by omega, by omega⟩, ⟨by omega, by omega⟩, ?_⟩⟩
      have := nx H6 e6' _ rfl
      rw [v7'] at this
      exact this
    · have s0 : dg = 0 := by omega
      have s1 : chS st dg = 0 := by rw [s0]; rfl
      have s2 : chS pr dg = 0 := by rw [s0]; rfl
      rw [s1] at nx
      rw [s2] at nx sr
      refine bX12_choose_134 ?_
      simp only [Int.toNat_natCast, Option.some.injEq, Prod.mk.injEq, true_and, and_true, exists_eq_left', hk.k14, v7']
      refine ⟨by omega, by omega, by omega, fun H6 e6' => ⟨fun g => by omega, fun _ => ?_⟩⟩
      refine bX12_choose_153 ⟨⟨by omega, by omega⟩, ⟨by omega, by omega⟩, ?_⟩
      have := nx H6 e6' _ rfl
      rw [v7'] at this
      exact this
set_option maxHeartbeats 1000000 in
theorem ch_207 {way : Nat} {all : Int} (E : CfE K G M i nb nr np nz f z bw bf bt rh st pr pn pm) (hw : way < 15625)
    (fin : ∀ G', FC M [19] G G' → (∀ k, k < nr → G' (M + 19) k = (dgt (nz + 1) nr way k : Int) - 1) → FX12_choose_247 d K G' q (M : Int) (i : Int) (nr : Int) all (way : Int)) :
    ∀ r G1 v5 v7, r ≤ nr → v5 = ((way / (nz + 1) ^ (nr - r) : Nat) : Int) → v7 = (r : Int) - 1 → FC M [19] G G1 → (∀ k, r ≤ k → k < nr → G1 (M + 19) k = (dgt (nz + 1) nr way k : Int) - 1) → FX12_choose_207 d K G1 q (M : Int) (i : Int) (nr : Int) all (way : Int) v5 v7 := by
  obtain ⟨hk, hp, hi, hR, ⟨hf, hz, hB, hRo⟩, hP, z1, z2, z3⟩ := E
  have nr6 := hRo.1
  have el : ∀ k, dgt (nz + 1) nr way k < nz + 1 := fun k => dgt_lt (by omega)
  intro r
  induction r with
  | zero =>
    intro G1 v5 v7 hr e5 e7 F u1
    refine bX12_choose_207 ⟨fun _ => fin G1 F (fun k hk => u1 k (by omega) hk), fun g => by omega⟩
  | succ r ih =>
    intro G1 v5 v7 hr e5 e7 F u1
    have m1 : G1 M = G M := F.self rfl
    have lw : way / (nz + 1) ^ (nr - (r + 1)) ≤ way := Nat.div_le_self _ _
    have dl := el r
    have d2 := dgt_eq (b := nz + 1) (n := nr) (r := r) (w := way)
    have ds := div_step (b := nz + 1) (n := nr) (r := r) (w := way) (by omega)
    obtain ⟨lft, hlft⟩ : ∃ l, way / (nz + 1) ^ (nr - (r + 1)) = l := ⟨_, rfl⟩
    rw [hlft] at e5 d2 ds lw
    have d3 : lft / (nz + 1) ≤ lft := Nat.div_le_self _ _
    obtain ⟨l2, hl2⟩ : ∃ l, lft / (nz + 1) = l := ⟨_, rfl⟩
    rw [hl2] at d3 ds
    have v7' : v7 = (r : Int) := by omega
    refine bX12_choose_207 ?_
    rw [e5, v7']
    simp only [Int.toNat_natCast, Option.some.injEq, Prod.mk.injEq, true_and, and_true, exists_eq_left', hk.k0, m1, z1, tm_nat, td_nat, hp.p29, hk.k19]
    rw [← d2]
    refine ⟨fun g => by omega, fun _ => ⟨by omega, ⟨by omega, by omega⟩, by omega, ⟨by omega, by omega⟩, ⟨by omega, by omega⟩, by omega, by omega, by omega, fun H6 e6 => ?_⟩⟩
    have m6 : H6 M = G M := by rw [e6, upA_ne (by omega)]; exact m1
    simp only [Int.toNat_natCast, Option.some.injEq, Prod.mk.injEq, true_and, and_true, exists_eq_left', m6, z1, td_nat]
    rw [hl2]
    refine ⟨⟨by omega, by omega⟩, by omega, ⟨by omega, by omega⟩, ⟨by omega, by omega⟩, ih H6 _ _ (by omega) (by rw [ds]) (by omega) (by rw [e6]; exact F.same (FC.up rfl)) (fun k h1 h2 => ?_)⟩
    rw [e6, upA_same]
    by_cases x : k = r
    · rw [x, up1_same]
    · rw [up1_ne x]; exact u1 k (by omega) h2
end RCh
