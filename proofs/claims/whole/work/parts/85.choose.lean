/-! RodBeam$Chooser: keep, attempt, choose -/
theorem codeD_sz {f : Nat → Int} {nz dg : Nat} (h : dg < nz + 1) : szOf f nz (codeD dg) = chS f dg := by
  unfold szOf codeD chS
  by_cases z : dg = 0
  · rw [if_pos z, if_pos z, if_neg (by omega)]
  · rw [if_neg z, if_neg z, if_pos (by omega)]
    congr 1
theorem maxN_le {f : Nat → Int} {u : Int} (hu : 0 ≤ u) : ∀ {n : Nat}, (∀ k, k < n → f k ≤ u) → 0 ≤ maxN f n ∧ maxN f n ≤ u
  | 0, _ => ⟨Int.le_refl 0, hu⟩
  | n + 1, h => by
    have i := maxN_le hu (n := n) (fun k hk => h k (by omega))
    have g := h n (by omega)
    show 0 ≤ max (maxN f n) (f n) ∧ max (maxN f n) (f n) ≤ u
    omega
theorem maxN_ge {f : Nat → Int} : ∀ {n k : Nat}, k < n → f k ≤ maxN f n
  | 0, _, h => absurd h (by omega)
  | n + 1, k, h => by
    show f k ≤ max (maxN f n) (f n)
    by_cases e : k = n
    · rw [e]; omega
    · have := maxN_ge (f := f) (n := n) (k := k) (by omega); omega
theorem maxN_at {f : Nat → Int} : ∀ {n : Nat}, ∃ dg, dg < n + 1 ∧ chS f dg = maxN f n
  | 0 => ⟨0, by omega, rfl⟩
  | n + 1 => by
    obtain ⟨dg, h1, h2⟩ := maxN_at (f := f) (n := n)
    by_cases e : maxN f n ≤ f n
    · refine ⟨n + 1, by omega, ?_⟩
      show (if n + 1 = 0 then 0 else f (n + 1 - 1)) = max (maxN f n) (f n)
      rw [if_neg (by omega), show n + 1 - 1 = n by omega]
      omega
    · refine ⟨dg, by omega, ?_⟩
      show _ = max (maxN f n) (f n)
      omega
def mixU (st : Nat → Int) (sg : Int) (c : Nat → Nat) (a : Nat) : Nat → Int := fun k => if k < a then chS st (c k) else sg
def BefB (G : Mem) (s : Nat) (pst : Int) : Prop := pst < G s 16
def DonB (G : Mem) (s nr : Nat) (e : Nat → Nat) (pst : Int) : Prop := G s 15 = 1 ∧ G s 16 = pst ∧ ∀ r, r < nr → G (s + 9) r = codeD (e r)
def eqP (c e : Nat → Nat) (a : Nat) : Prop := ∀ j, j < a → c j = e j
def ltP (c e : Nat → Nat) (a : Nat) : Prop := ∃ a', a' < a ∧ (∀ j, j < a' → c j = e j) ∧ c a' < e a'
def PostB (G G' : Mem) (s nr : Nat) (e : Nat → Nat) (pst : Int) (c : Nat → Nat) (a : Nat) : Prop := (DonB G s nr e pst → DonB G' s nr e pst) ∧ (BefB G s pst → eqP c e a → DonB G' s nr e pst) ∧ (BefB G s pst → ltP c e a → BefB G' s pst)
theorem DonB.keep {G G' : Mem} {s nr : Nat} {e : Nat → Nat} {pst : Int} (h : DonB G s nr e pst) (e1 : G' s = G s) (e2 : G' (s + 9) = G (s + 9)) : DonB G' s nr e pst := by
  unfold DonB at *; rw [e1, e2]; exact h
theorem BefB.keep {G G' : Mem} {s : Nat} {pst : Int} (h : BefB G s pst) (e1 : G' s = G s) : BefB G' s pst := by
  unfold BefB at *; rw [e1]; exact h
/-- the search's surroundings -/
def SE (K : Shp) (H : Mem) (X s nb nr np nz ka w : Nat) : Prop := ChE K H X s nb nr ∧ (TriK 6 4 K H (X + 18) ∧ H (X + 18) 0 = (nz : Int) ∧ nz ≤ 4 ∧ ∀ k, k < nz → (1 ≤ H (X + 19) k ∧ H (X + 19) k ≤ 200) ∧ 1 ≤ H (X + 20) k ∧ H (X + 20) k ≤ 10000) ∧ (H (X + 73) 1 = (ka : Int) ∧ ka ≤ 16 ∧ H (X + 73) 5 = maxN (H (X + 19)) nz) ∧ (∀ p, p < np → -1000000 ≤ H (X + 17) p ∧ H (X + 17) p ≤ 1000000) ∧ IsBest (bearOf H s nb nr) np (H (X + 16)) (H (X + 17)) nz (H (X + 19)) (H (X + 20)) nr w
def SrF (X s : Nat) (H G : Mem) : Prop := (∀ x, x < X + 74 ∨ X + 82 < x → x ≠ s → x ≠ s + 9 → G x = H x) ∧ WkP (G (X + 74)) (X + 74) ∧ FO [15, 16] (H s) (G s)
def SrI (H G : Mem) (X s nb nr np nz ka : Nat) (c : Nat → Nat) (a lo : Nat) : Prop := SrF X s H G ∧
  AskD (fun hi n m => bSd H s nb nr (fun _ => 0) hi n m = true) (fun p hi => p < np ∧ (hi = 0 ∨ hi = 1)) np (H (X + 16)) (H (X + 17)) ka (G (X + 78)) (G (X + 79)) (G (X + 80)) ∧
  (∀ k, k < a → G (X + 81) k = chS (H (X + 19)) (c k)) ∧ (∀ k, lo ≤ k → k < 6 → G (X + 81) k = maxN (H (X + 19)) nz) ∧ ∀ k, k < a → G (X + 82) k = codeD (c k)
section Cho
variable {d : Nat} {K : Shp} {H G : Mem} {X s nb nr np nz ka w : Nat}
theorem ChE.sr (h : ChE K H X s nb nr) (f : SrF X s H G) : ChE K G X s nb nr := by
  obtain ⟨h1, h2, h3, h4, h5⟩ := h
  exact ⟨h1, by rw [f.1 _ (by omega) (by omega) (by omega)]; exact h2, f.2.1, h4.fo (f.2.2.wide rfl) (fun j a b => f.1 _ (by omega) (by omega) (by omega)), h5⟩
theorem TriK.sr {kd n p : Nat} (h : TriK kd n K H p) (e : G p = H p) : TriK kd n K G p := by
  unfold TriK at *; rw [e]; exact h
theorem prD_bd {pr : Nat → Int} {c : Nat → Nat} (hpr : ∀ k, k < nz → 1 ≤ pr k ∧ pr k ≤ 10000) : ∀ {n : Nat}, (∀ k, k < n → c k < nz + 1) → 0 ≤ prD pr c n ∧ prD pr c n ≤ 10000 * (n : Int)
  | 0, _ => ⟨Int.le_refl 0, by show (0 : Int) ≤ _; omega⟩
  | n + 1, h => by
    have i := prD_bd hpr (n := n) (fun k hk => h k (by omega))
    have g := h n (by omega)
    have b : 0 ≤ chS pr (c n) ∧ chS pr (c n) ≤ 10000 := by
      unfold chS
      split
      · omega
      · have := hpr (c n - 1) (by omega); omega
    show 0 ≤ prD pr c n + chS pr (c n) ∧ prD pr c n + chS pr (c n) ≤ _
    omega
theorem prD_le {pr : Nat → Int} {c : Nat → Nat} (hpr : ∀ k, k < nz → 1 ≤ pr k ∧ pr k ≤ 10000) {m : Nat} : ∀ {n : Nat}, m ≤ n → (∀ k, k < n → c k < nz + 1) → prD pr c m ≤ prD pr c n
  | 0, h, _ => by rw [show m = 0 by omega]; exact Int.le_refl _
  | n + 1, h, hc => by
    by_cases e : m = n + 1
    · rw [e]; exact Int.le_refl _
    · have i := prD_le hpr (m := m) (n := n) (by omega) (fun k hk => hc k (by omega))
      have g := hc n (by omega)
      have b : 0 ≤ chS pr (c n) := by
        unfold chS
        split
        · omega
        · have := hpr (c n - 1) (by omega); omega
      show _ ≤ prD pr c n + chS pr (c n)
      omega
theorem chS_bd {f : Nat → Int} {u : Int} {dg : Nat} (hu : 0 ≤ u) (h : ∀ k, k < nz → 1 ≤ f k ∧ f k ≤ u) (hd : dg < nz + 1) : 0 ≤ chS f dg ∧ chS f dg ≤ u ∧ chS f dg ≤ maxN f nz := by
  have m := maxN_le (f := f) hu (n := nz) (fun k hk => (h k hk).2)
  unfold chS
  split
  · omega
  · have a := h (dg - 1) (by omega)
    have b := maxN_ge (f := f) (n := nz) (k := dg - 1) (by omega)
    omega
set_option maxHeartbeats 1000000 in
theorem sp_X1_keep {q : Mem → Prop} {v : Int} (C : ChE K G X s nb nr) (hq : ∀ G', (∀ x, x ≠ s → x ≠ s + 9 → G' x = G x) → G' s = up1 (up1 (G s) 15 1) 16 v → (∀ k, k < 6 → G' (s + 9) k = G (X + 82) k) → q G') : Cv mX1_keep (d + 1) [(2, ((X + 73 : Nat) : Int)), (2, (s : Int)), (0, v)] K G q := by
  obtain ⟨hS1, hC, hW, sI, hs⟩ := id C
  refine eX1_keep fun _ _ => bX1_keep_0 ?_
  simp only [Int.toNat_natCast, Option.some.injEq, Prod.mk.injEq, true_and, and_true, exists_eq_left', sI.1.1]
  refine ⟨by omega, fun H1 e1 H2 e2 => ?_⟩
  have c2 : ∀ x, x ≠ s → H2 x = G x := fun x hx => by rw [e2, upA_ne hx, e1, upA_ne hx]
  have v2 : H2 s = up1 (up1 (G s) 15 1) 16 v := by rw [e2, upA_same, e1, upA_same]
  have p17 : H2 s 17 = ((s + 9 : Nat) : Int) := by rw [v2, up1_ne (by decide), up1_ne (by decide)]; exact sI.2.1.2.2.2.2.2.2.2.2
  clear e1 e2
  simp only [Int.toNat_natCast, Option.some.injEq, Prod.mk.injEq, true_and, and_true, exists_eq_left', hS1.k73, c2 (X + 73) (by omega), hC.p7, hS1.k82, p17, sI.1.2.2.2.2.2.2.2.2.2]
  refine ⟨by omega, by omega, by omega, by omega, by omega, fun H3 e3 => hq H3 (fun x a b => by rw [e3, upA_ne b]; exact c2 x a) (by rw [e3, upA_ne (by omega)]; exact v2) (fun k hk => ?_)⟩
  rw [e3, upA_same]
  show (if 0 ≤ k ∧ k < 0 + 6 then H2 (X + 82) (0 + (k - 0)) else H2 (s + 9) k) = _
  rw [if_pos ⟨by omega, by omega⟩, c2 _ (by omega)]
  congr 1
  omega
/-- what a call of choose at depth dd brings about, for every beginning of length a -/
def ChSpec (K : Shp) (H : Mem) (X s nb nr np nz ka w dd a : Nat) : Prop := ∀ (c : Nat → Nat) (G : Mem) (price : Int) (q : Mem → Prop), SrI H G X s nb nr np nz ka c a a → (∀ k, k < a → c k < nz + 1) → price = prD (H (X + 20)) c a → price < G s 16 → safeW (bearOf H s nb nr) np (H (X + 16)) (H (X + 17)) (mixU (H (X + 19)) (maxN (H (X + 19)) nz) c a) →
  (∀ G', SrI H G' X s nb nr np nz ka c a a → PostB G G' s nr (dgt (nz + 1) nr w) (prD (H (X + 20)) (dgt (nz + 1) nr w) nr) c a → q G') → Cv mX1_choose dd [(2, ((X + 73 : Nat) : Int)), (2, (s : Int)), (2, ((X + 18 : Nat) : Int)), (0, (a : Int)), (0, price)] K G q
theorem choose_leaf (E : SE K H X s nb nr np nz ka w) : ChSpec K H X s nb nr np nz ka w (d + 2) nr := by
  intro c G price q I hc hp hlt sf hq
  obtain ⟨C, ⟨T, z1, z2, z3⟩, ⟨k1, k2, k3⟩, hm, best⟩ := E
  have C' := C.sr I.1
  obtain ⟨hS1, hC, hW, sI, hs⟩ := id C'
  have sI0 := C.2.2.2.1
  have mN := maxN_le (f := H (X + 19)) (u := 200) (by decide) (n := nz) (fun k hk => (z3 k hk).1.2)
  have sf' : safeW (bearOf H s nb nr) np (H (X + 16)) (H (X + 17)) (usD (H (X + 19)) nr c) := safe_mono sI0 (fun k hk => by
    have b := chS_bd (f := H (X + 19)) (u := 200) (nz := nz) (by decide) (fun k hk => (z3 k hk).1) (hc k hk)
    unfold mixU usD
    rw [if_pos hk, if_pos hk]
    omega) sf
  have r7 : G s 7 = (nr : Int) := sI.2.2.2.1
  refine eX1_choose fun _ _ _ => bX1_choose_0 ?_
  have kp : Cv mX1_keep (d + 1) [(2, ((X + 73 : Nat) : Int)), (2, (s : Int)), (0, price)] K G (fun H6 => q H6) := by
    refine sp_X1_keep C' ?_
    intro G' e es e9
    have s15 : G' s 15 = 1 := by rw [es, up1_ne (by decide), up1_same]
    have s16 : G' s 16 = price := by rw [es, up1_same]
    have nr6 := sI.2.2.2.2.2.2.2.1.1
    refine hq G' ⟨⟨fun x a b c' => (e x b c').trans (I.1.1 x a b c'), by rw [e _ (by omega) (by omega)]; exact I.1.2.1, by rw [es]; exact (I.1.2.2.same (FO.up rfl)).same (FO.up rfl)⟩, ?_, ?_, ?_, ?_⟩ ⟨fun dn => ?_, fun bf eq => ?_, fun bf lt => ?_⟩
    · rw [e (X + 78) (by omega) (by omega), e (X + 79) (by omega) (by omega), e (X + 80) (by omega) (by omega)]; exact I.2.1
    · rw [e (X + 81) (by omega) (by omega)]; exact I.2.2.1
    · rw [e (X + 81) (by omega) (by omega)]; exact I.2.2.2.1
    · rw [e (X + 82) (by omega) (by omega)]; exact I.2.2.2.2
    · have g := best_digits best hc sf'
      have x := dn.2.1
      omega
    · have ep : prD (H (X + 20)) c nr = prD (H (X + 20)) (dgt (nz + 1) nr w) nr := prD_congr eq
      exact ⟨s15, by rw [s16, hp, ep], fun r hr => by rw [e9 r (by omega), I.2.2.2.2 r hr, eq r hr]⟩
    · obtain ⟨a', l1, l2, l3⟩ := lt
      have g := best_before best hc sf' l1 l2 l3
      show _ < G' s 16
      rw [s16, hp]
      exact g
  simp only [Int.toNat_natCast, Option.some.injEq, Prod.mk.injEq, true_and, and_true, exists_eq_left', sI.1.1, r7, hS1.k73]
  exact ⟨by omega, fun _ => ⟨by omega, kp⟩, fun g => by omega⟩
end Cho
