/-! what holds between two calls -/
def safeW (B : (Nat → Int) → Int → Int → Bool) (np : Nat) (pn pm : Nat → Int) (us : Nat → Int) : Prop := ∀ p, p < np → B us (pn p) (pm p) = true
/-- number k's digit in a way, of n digits, the first the greatest -/
def dgt (b n way k : Nat) : Nat := way / b ^ (n - 1 - k) % b
def chS (st : Nat → Int) (dg : Nat) : Int := if dg = 0 then 0 else st (dg - 1)
def codeD (dg : Nat) : Int := if dg = 0 then -2 else ((dg - 1 : Nat) : Int)
def usW (st : Nat → Int) (nz nr way : Nat) : Nat → Int := fun k => if k < nr then chS st (dgt (nz + 1) nr way k) else 0
def prW (pr : Nat → Int) (nz nr way : Nat) : Int := sumN (fun k => chS pr (dgt (nz + 1) nr way k)) nr
def IsBest (B : (Nat → Int) → Int → Int → Bool) (np : Nat) (pn pm : Nat → Int) (nz : Nat) (st pr : Nat → Int) (nr w : Nat) : Prop := w < (nz + 1) ^ nr ∧ safeW B np pn pm (usW st nz nr w) ∧ ∀ w', w' < (nz + 1) ^ nr → safeW B np pn pm (usW st nz nr w') → prW pr nz nr w < prW pr nz nr w' ∨ (prW pr nz nr w = prW pr nz nr w' ∧ w ≤ w')
def BestP (B : (Nat → Int) → Int → Int → Bool) (np : Nat) (pn pm : Nat → Int) (nz : Nat) (st pr : Nat → Int) (nr : Nat) (g pk : Nat → Int) : Prop := g 14 = 0 ∨ (g 14 = 1 ∧ ((g 15 = 0 ∧ ∀ w, w < (nz + 1) ^ nr → ¬ safeW B np pn pm (usW st nz nr w)) ∨
  (g 15 = 1 ∧ ∃ w, IsBest B np pn pm nz st pr nr w ∧ g 16 = prW pr nz nr w ∧ ∀ r, r < nr → pk r = codeD (dgt (nz + 1) nr w r))))
def bearOf (H : Mem) (s nb nr : Nat) : (Nat → Int) → Int → Int → Bool := fun us n m => bearB (H s 0) (H s 1) (H (s + 1)) (H (s + 2)) (H (s + 3)) nb (H (s + 4)) us nr n m
def SecOk (K : Shp) (H : Mem) (M i s nb nr : Nat) : Prop := SecI K H s nb nr ∧ RSec H M i (H s 0) (H s 1) (H (s + 1)) (H (s + 2)) (H (s + 3)) nb (H (s + 4)) nr ∧ ∀ r, r < nr → H (M + 13) (6 * i + r) = H (s + 5) r
def PairsOk (H : Mem) (X M np : Nat) : Prop := H (X + 15) 0 = (np : Int) ∧ np ≤ 8 ∧ H M 27 = (np : Int) ∧ ∀ p, p < np → H (M + 15) p = H (X + 16) p ∧ H (M + 16) p = H (X + 17) p ∧ (-1000000 ≤ H (X + 16) p ∧ H (X + 16) p ≤ 1000000) ∧ -1000000 ≤ H (X + 17) p ∧ H (X + 17) p ≤ 1000000
def SizesOk (H : Mem) (X M nz : Nat) : Prop := H (X + 18) 0 = (nz : Int) ∧ nz ≤ 4 ∧ H M 28 = (nz : Int) ∧ ∀ p, p < nz → H (M + 17) p = H (X + 19) p ∧ H (M + 18) p = H (X + 20) p ∧ (1 ≤ H (X + 19) p ∧ H (X + 19) p ≤ 200) ∧ 1 ≤ H (X + 20) p ∧ H (X + 20) p ≤ 10000
def SpanOk (H : Mem) (X M i ld : Nat) : Prop := H (M + 20) i = H (X + 54 + 3 * i) 0 ∧ (2 ≤ H (X + 54 + 3 * i) 0 ∧ H (X + 54 + 3 * i) 0 ≤ 50) ∧ H (M + 21) i = H (X + 54 + 3 * i) 1 ∧ (0 ≤ H (X + 54 + 3 * i) 1 ∧ H (X + 54 + 3 * i) 1 ≤ 3) ∧ H (M + 22) i = (ld : Int) ∧ H (X + 54 + 3 * i) 2 = (ld : Int) ∧ ld ≤ 2 ∧
  ∀ k, k < ld → H (M + 23) (2 * i + k) = H (X + 54 + 3 * i + 1) k ∧ H (M + 24) (2 * i + k) = H (X + 54 + 3 * i + 2) k ∧ (1 ≤ H (X + 54 + 3 * i + 1) k ∧ H (X + 54 + 3 * i + 1) k < H (X + 54 + 3 * i) 0) ∧ 1 ≤ H (X + 54 + 3 * i + 2) k ∧ H (X + 54 + 3 * i + 2) k ≤ 1000
def BeamOk (H : Mem) (X M nsp : Nat) (ld : Nat → Nat) : Prop := H (X + 21) 0 = (nsp : Int) ∧ nsp ≤ 5 ∧ H M 37 = (nsp : Int) ∧ (∀ i, i < nsp → SpanOk H X M i (ld i)) ∧ ∀ e, e < 2 → H (M + 25) e = H (X + 23) e ∧ (H (X + 23) e = 0 ∨ H (X + 23) e = 1)
def OutOk (H : Mem) (X M : Nat) : Prop := H M 9 = H (X + 1) 0 ∧ (0 ≤ H (X + 1) 0 ∧ H (X + 1) 0 ≤ 110) ∧ ∀ k : Nat, (k : Int) < H (X + 1) 0 → H (M + 5) k = H (X + 2) k
/-- shapes of the class's cells (those of sections apart) -/
def InvS (K : Shp) (X : Nat) : Prop := K[X]? = some (11, 8) ∧ K[X + 1]? = some (8, 3) ∧ K[X + 2]? = some (20, 110) ∧ K[X + 14]? = some (23, 4) ∧ (K[X + 15]? = some (2, 3) ∧ K[X + 16]? = some (20, 8) ∧ K[X + 17]? = some (20, 8)) ∧ (K[X + 18]? = some (6, 3) ∧ K[X + 19]? = some (20, 4) ∧ K[X + 20]? = some (20, 4)) ∧ K[X + 21]? = some (0, 12) ∧ K[X + 22]? = some (24, 5) ∧ K[X + 23]? = some (22, 2) ∧ WkS K (X + 46) ∧
  (K[X + 50]? = some (5, 2) ∧ K[X + 51]? = some (5, 2) ∧ K[X + 52]? = some (5, 2) ∧ K[X + 53]? = some (5, 2)) ∧ (∀ i, i < 5 → K[X + 54 + 3 * i]? = some (7, 5) ∧ K[X + 54 + 3 * i + 1]? = some (20, 2) ∧ K[X + 54 + 3 * i + 2]? = some (20, 2)) ∧ WkS K (X + 69) ∧ K[X + 73]? = some (1, 8) ∧ WkS K (X + 74) ∧ K[X + 78]? = some (20, 16) ∧ K[X + 79]? = some (20, 16) ∧ K[X + 80]? = some (22, 16) ∧ K[X + 81]? = some (20, 6) ∧ K[X + 82]? = some (20, 6)
def RbP (g : Nat → Int) (X : Nat) : Prop := g 1 = ((X + 1 : Nat) : Int) ∧ g 2 = ((X + 14 : Nat) : Int) ∧ g 3 = ((X + 15 : Nat) : Int) ∧ g 4 = ((X + 18 : Nat) : Int) ∧ g 5 = ((X + 21 : Nat) : Int) ∧ g 6 = ((X + 69 : Nat) : Int) ∧ g 7 = ((X + 73 : Nat) : Int)
def BmP (g : Nat → Int) (X : Nat) : Prop := g 1 = ((X + 22 : Nat) : Int) ∧ g 2 = ((X + 23 : Nat) : Int) ∧ g 3 = ((X + 24 : Nat) : Int) ∧ g 4 = ((X + 35 : Nat) : Int) ∧ g 7 = ((X + 46 : Nat) : Int) ∧ g 8 = ((X + 50 : Nat) : Int) ∧ g 9 = ((X + 51 : Nat) : Int) ∧ g 10 = ((X + 52 : Nat) : Int) ∧ g 11 = ((X + 53 : Nat) : Int)
def ChP (g : Nat → Int) (X : Nat) : Prop := g 0 = ((X + 74 : Nat) : Int) ∧ g 2 = ((X + 78 : Nat) : Int) ∧ g 3 = ((X + 79 : Nat) : Int) ∧ g 4 = ((X + 80 : Nat) : Int) ∧ g 6 = ((X + 81 : Nat) : Int) ∧ g 7 = ((X + 82 : Nat) : Int)
def ClsP (H : Mem) (X : Nat) : Prop := RbP (H X) X ∧ (H (X + 1) 1 = ((X + 2 : Nat) : Int) ∧ H (X + 1) 2 = ((X + 3 : Nat) : Int)) ∧ (∀ i, i < 4 → H (X + 14) i = ((X + 83 + 10 * i : Nat) : Int)) ∧ (H (X + 15) 1 = ((X + 16 : Nat) : Int) ∧ H (X + 15) 2 = ((X + 17 : Nat) : Int)) ∧ (H (X + 18) 1 = ((X + 19 : Nat) : Int) ∧ H (X + 18) 2 = ((X + 20 : Nat) : Int)) ∧ BmP (H (X + 21)) X ∧
  (∀ i, i < 5 → H (X + 22) i = ((X + 54 + 3 * i : Nat) : Int)) ∧ ∀ i, i < 5 → H (X + 54 + 3 * i) 3 = ((X + 54 + 3 * i + 1 : Nat) : Int) ∧ H (X + 54 + 3 * i) 4 = ((X + 54 + 3 * i + 2 : Nat) : Int)
/-- what only serves within a call -/
def ScrP (K : Shp) (H : Mem) (X : Nat) : Prop := RatK K H (X + 3) ∧ RatK K H (X + 24) ∧ RatK K H (X + 35) ∧ WkP (H (X + 46)) (X + 46) ∧ WkP (H (X + 69)) (X + 69) ∧ WkP (H (X + 74)) (X + 74) ∧ ChP (H (X + 73)) X
def Held (K : Shp) (H : Mem) (X M : Nat) (nb nr : Nat → Nat) (np nz nsp : Nat) (ld : Nat → Nat) : Prop :=
  (∀ i, i < 4 → SecOk K H M i (X + 83 + 10 * i) (nb i) (nr i) ∧ BestP (bearOf H (X + 83 + 10 * i) (nb i) (nr i)) np (H (X + 16)) (H (X + 17)) nz (H (X + 19)) (H (X + 20)) (nr i) (H (X + 83 + 10 * i)) (H (X + 83 + 10 * i + 9))) ∧ PairsOk H X M np ∧ SizesOk H X M nz ∧ BeamOk H X M nsp ld
def Inv (K : Shp) (H : Mem) (X M : Nat) : Prop := M = X + 123 ∧ InvS K X ∧ RefS K M ∧ ScrP K H X ∧ ClsP H X ∧ RefP (H M) M ∧ (∃ nb nr np nz nsp ld, Held K H X M nb nr np nz nsp ld) ∧ OutOk H X M ∧ H X 0 = H M 0
/-- the places that a call which only asks leaves alone -/
def keepP (X x k : Nat) : Prop := (x = X ∧ k ≠ 0) ∨ (x = X + 1 ∧ k ≠ 0) ∨ (X + 14 ≤ x ∧ x ≤ X + 20) ∨ (x = X + 21 ∧ k ≠ 5 ∧ k ≠ 6) ∨ (X + 22 ≤ x ∧ x ≤ X + 23) ∨ (X + 54 ≤ x ∧ x ≤ X + 68) ∨ (X + 83 ≤ x ∧ x ≤ X + 122) ∨ (X + 129 ≤ x ∧ x ≤ X + 136) ∨ (X + 138 ≤ x ∧ x ≤ X + 141) ∨ (X + 143 ≤ x ∧ x ≤ X + 148) ∨
  (x = X + 123 ∧ k ≠ 0 ∧ k ≠ 2 ∧ k ≠ 6 ∧ k ≠ 7 ∧ k ≠ 9 ∧ (k < 19 ∨ 22 < k) ∧ k ≠ 30 ∧ (k < 38 ∨ 48 < k) ∧ k ≠ 50)
def Kept (X : Nat) (H H' : Mem) : Prop := ∀ x k, keepP X x k → H' x k = H x k
theorem Kept.rf {X : Nat} {H : Mem} : Kept X H H := fun _ _ _ => rfl
theorem Kept.tr {X : Nat} {H H' H2 : Mem} (h1 : Kept X H H') (h2 : Kept X H' H2) : Kept X H H2 := fun x k h => (h2 x k h).trans (h1 x k h)
theorem Kept.cell {X : Nat} {H H' : Mem} (h : Kept X H H') {x : Nat} (hx : ∀ k, keepP X x k) : H' x = H x := funext fun k => h x k (hx k)
theorem ClsP.keep {X : Nat} {H H' : Mem} (h : ClsP H X) (e : Kept X H H') : ClsP H' X := by
  obtain ⟨⟨a1, a2, a3, a4, a5, a6, a7⟩, ⟨b1, b2⟩, c, ⟨d1, d2⟩, ⟨e1, e2⟩, ⟨f1, f2, f3, f4, f5, f6, f7, f8, f9⟩, g, i⟩ := h
  have q : ∀ {x k : Nat} {v : Int}, keepP X x k → H x k = v → H' x k = v := fun hk hv => (e _ _ hk).trans hv
  refine ⟨⟨q ?_ a1, q ?_ a2, q ?_ a3, q ?_ a4, q ?_ a5, q ?_ a6, q ?_ a7⟩, ⟨q ?_ b1, q ?_ b2⟩, fun j hj => q ?_ (c j hj), ⟨q ?_ d1, q ?_ d2⟩, ⟨q ?_ e1, q ?_ e2⟩, ⟨q ?_ f1, q ?_ f2, q ?_ f3, q ?_ f4, q ?_ f5, q ?_ f6, q ?_ f7, q ?_ f8, q ?_ f9⟩, fun j hj => q ?_ (g j hj), fun j hj => ⟨q ?_ (i j hj).1, q ?_ (i j hj).2⟩⟩ <;> (unfold keepP; omega)
theorem RefP.keep {X M : Nat} {H H' : Mem} (hM : M = X + 123) (h : RefP (H M) M) (e : Kept X H H') : RefP (H' M) M := by
  refine h.cong [0, 2, 6, 7, 9, 19, 20, 21, 22, 30, 38, 39, 40, 41, 42, 43, 44, 45, 46, 47, 48, 50] rfl (fun k hk => e M k ?_)
  simp at hk
  unfold keepP
  omega
theorem SecI.keepc {K : Shp} {H H' : Mem} {s nb nr : Nat} (h : SecI K H s nb nr) (e : ∀ j, j < 10 → H' (s + j) = H (s + j)) : SecI K H' s nb nr := by
  unfold SecI at *
  rw [show H' s = H s from e 0 (by omega), e 1 (by omega), e 2 (by omega), e 3 (by omega), e 4 (by omega), e 5 (by omega), e 6 (by omega), e 7 (by omega), e 8 (by omega)]
  exact h
theorem Held.keep {K : Shp} {H H' : Mem} {X M np nz nsp : Nat} {nb nr ld : Nat → Nat} (hM : M = X + 123) (h : Held K H X M nb nr np nz nsp ld) (e : Kept X H H') : Held K H' X M nb nr np nz nsp ld := by
  have mc : ∀ j, (6 ≤ j ∧ j ≤ 13) ∨ (15 ≤ j ∧ j ≤ 18) ∨ (20 ≤ j ∧ j ≤ 25) → H' (M + j) = H (M + j) := fun j hj => e.cell (fun k => by unfold keepP; omega)
  have sc : ∀ i j, i < 4 → j < 10 → H' (X + 83 + 10 * i + j) = H (X + 83 + 10 * i + j) := fun i j hi hj => e.cell (fun k => by unfold keepP; omega)
  have pc : ∀ i j, i < 5 → j < 3 → H' (X + 54 + 3 * i + j) = H (X + 54 + 3 * i + j) := fun i j hi hj => e.cell (fun k => by unfold keepP; omega)
  have cc : ∀ j, (14 ≤ j ∧ j ≤ 20) ∨ (22 ≤ j ∧ j ≤ 23) → H' (X + j) = H (X + j) := fun j hj => e.cell (fun k => by unfold keepP; omega)
  have mk : ∀ k, k = 27 ∨ k = 28 ∨ k = 37 → H' M k = H M k := fun k hk => e M k (by unfold keepP; omega)
  obtain ⟨h1, h2, h3, h4⟩ := h
  refine ⟨fun i hi => ?_, ?_, ?_, ?_⟩
  · have s0 := sc i 0 hi (by omega)
    rw [Nat.add_zero] at s0
    obtain ⟨⟨a1, a2, a3⟩, a4⟩ := h1 i hi
    refine ⟨⟨a1.keepc (fun j hj => sc i j hi hj), ?_, ?_⟩, ?_⟩
    · unfold RSec at *
      rw [mc 6 (by omega), mc 7 (by omega), mc 8 (by omega), mc 9 (by omega), mc 10 (by omega), mc 11 (by omega), mc 12 (by omega), s0, sc i 1 hi (by omega), sc i 2 hi (by omega), sc i 3 hi (by omega), sc i 4 hi (by omega)]
      exact a2
    · rw [mc 13 (by omega), sc i 5 hi (by omega)]; exact a3
    · unfold bearOf at *
      rw [cc 16 (by omega), cc 17 (by omega), cc 19 (by omega), cc 20 (by omega), s0, sc i 1 hi (by omega), sc i 2 hi (by omega), sc i 3 hi (by omega), sc i 4 hi (by omega), sc i 9 hi (by omega)]
      exact a4
  · unfold PairsOk at *
    rw [cc 15 (by omega), cc 16 (by omega), cc 17 (by omega), mc 15 (by omega), mc 16 (by omega), mk 27 (by omega)]
    exact h2
  · unfold SizesOk at *
    rw [cc 18 (by omega), cc 19 (by omega), cc 20 (by omega), mc 17 (by omega), mc 18 (by omega), mk 28 (by omega)]
    exact h3
  · obtain ⟨b1, b2, b3, b4, b5⟩ := h4
    refine ⟨(e (X + 21) 0 (by unfold keepP; omega)).trans b1, b2, (mk 37 (by omega)).trans b3, fun i hi => ?_, ?_⟩
    · have s0 := pc i 0 (by omega) (by omega)
      rw [Nat.add_zero] at s0
      have := b4 i hi
      unfold SpanOk at *
      rw [mc 20 (by omega), mc 21 (by omega), mc 22 (by omega), mc 23 (by omega), mc 24 (by omega), s0, pc i 1 (by omega) (by omega), pc i 2 (by omega) (by omega)]
      exact this
    · rw [mc 25 (by omega), cc 23 (by omega)]; exact b5
/-- a call that only asks -/
theorem Inv.ask {K : Shp} {H H' : Mem} {X M : Nat} (h : Inv K H X M) (e : Kept X H H') (hs : ScrP K H' X) (ho : OutOk H' X M) (hst : H' X 0 = H' M 0) : Inv K H' X M := by
  obtain ⟨hM, h1, h2, h3, h4, h5, ⟨nb, nr, np, nz, nsp, ld, h6⟩, h7, h8⟩ := h
  exact ⟨hM, h1, h2, hs, h4.keep e, h5.keep hM e, ⟨nb, nr, np, nz, nsp, ld, h6.keep hM e⟩, ho, hst⟩
theorem OutOk.keep {H H' : Mem} {X M : Nat} (h : OutOk H X M) (e1 : H' (X + 1) = H (X + 1)) (e2 : H' (X + 2) = H (X + 2)) (e3 : H' (M + 5) = H (M + 5)) (e4 : H' M 9 = H M 9) : OutOk H' X M := by
  unfold OutOk at *
  rw [e1, e2, e3, e4]; exact h
theorem WhK.cells {K : Shp} {H H' : Mem} {a : Nat} (h : WhK K H a) (e : H' a = H a) : WhK K H' a := ⟨h.1, h.2.1, by rw [e]; exact h.2.2⟩
theorem RatK.cells {K : Shp} {H H' : Mem} {r : Nat} (h : RatK K H r) (e : ∀ j, j ≤ 10 → H' (r + j) = H (r + j)) : RatK K H' r := by
  obtain ⟨h1, h2, w1, w2, w3, w4, w5⟩ := h
  have e0 : H' r = H r := e 0 (by omega)
  exact ⟨h1, by rw [e0]; exact h2, w1.cells (e 1 (by omega)), w2.cells (e 3 (by omega)), w3.cells (e 5 (by omega)), w4.cells (e 7 (by omega)), w5.cells (e 9 (by omega))⟩
/-- nothing of the class's helpers has changed -/
theorem ScrP.cells {K : Shp} {H H' : Mem} {X : Nat} (h : ScrP K H X) (e : ∀ x, (X + 3 ≤ x ∧ x ≤ X + 13) ∨ (X + 24 ≤ x ∧ x ≤ X + 49) ∨ (X + 69 ≤ x ∧ x ≤ X + 77) → H' x = H x) : ScrP K H' X := by
  obtain ⟨a1, a2, a3, a4, a5, a6, a7⟩ := h
  exact ⟨a1.cells (fun j hj => e _ (by omega)), a2.cells (fun j hj => e _ (by omega)), a3.cells (fun j hj => e _ (by omega)), by rw [e _ (by omega)]; exact a4, by rw [e _ (by omega)]; exact a5, by rw [e _ (by omega)]; exact a6, by rw [e _ (by omega)]; exact a7⟩
/-- both tell the same status -/
theorem Inv.stat {K : Shp} {H H1 H2 : Mem} {X M : Nat} {v : Int} (h : Inv K H X M) (e1 : H1 = upA H X (up1 (H X) 0 v)) (e2 : H2 = upA H1 M (up1 (H1 M) 0 v)) : Inv K H2 X M := by
  have hM := h.1
  have c : ∀ x, x ≠ X → x ≠ M → H2 x = H x := fun x a b => by rw [e2, upA_ne b, e1, upA_ne a]
  have cX : H2 X = up1 (H X) 0 v := by rw [e2, upA_ne (by omega), e1, upA_same]
  have cM : H2 M = up1 (H M) 0 v := by rw [e2, upA_same, e1, upA_ne (by omega)]
  refine h.ask (fun x k hk => ?_) (h.2.2.2.1.cells (fun x hx => c x (by omega) (by omega))) (h.2.2.2.2.2.2.2.1.keep (c _ (by omega) (by omega)) (c _ (by omega) (by omega)) (c _ (by omega) (by omega)) ?_) (by rw [cX, cM, up1_same, up1_same])
  · by_cases x1 : x = X
    · subst x1; rw [cX, up1_ne (by unfold keepP at hk; omega)]
    · by_cases x2 : x = M
      · subst x2; rw [cM, up1_ne (by unfold keepP at hk; omega)]
      · rw [c x x1 x2]
  · rw [cM, up1_ne (by decide)]
