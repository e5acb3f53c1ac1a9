/-! the reference: shapes, pointers, frames -/
def RefS (K : Shp) (M : Nat) : Prop := K[M]? = some (12, 51) ∧ K[M + 1]? = some (20, 20000) ∧ K[M + 2]? = some (20, 100) ∧ K[M + 3]? = some (20, 100) ∧ K[M + 4]? = some (20, 100) ∧ K[M + 5]? = some (20, 200) ∧ K[M + 6]? = some (20, 4) ∧ K[M + 7]? = some (20, 4) ∧ K[M + 8]? = some (20, 4) ∧ K[M + 9]? = some (20, 4) ∧ K[M + 10]? = some (20, 4) ∧ K[M + 11]? = some (20, 400) ∧ K[M + 12]? = some (20, 24) ∧ K[M + 13]? = some (20, 24) ∧ K[M + 14]? = some (20, 6) ∧ K[M + 15]? = some (20, 8) ∧ K[M + 16]? = some (20, 8) ∧ K[M + 17]? = some (20, 4) ∧ K[M + 18]? = some (20, 4) ∧ K[M + 19]? = some (20, 6) ∧ K[M + 20]? = some (20, 5) ∧ K[M + 21]? = some (20, 5) ∧ K[M + 22]? = some (20, 5) ∧ K[M + 23]? = some (20, 10) ∧ K[M + 24]? = some (20, 10) ∧ K[M + 25]? = some (22, 2) ∧ K[M + 26]? = some (20, 48)
def RefP (g : Nat → Int) (M : Nat) : Prop := g 1 = ((M + 1 : Nat) : Int) ∧ g 3 = ((M + 2 : Nat) : Int) ∧ g 4 = ((M + 3 : Nat) : Int) ∧ g 5 = ((M + 4 : Nat) : Int) ∧ g 8 = ((M + 5 : Nat) : Int) ∧ g 10 = ((M + 6 : Nat) : Int) ∧ g 11 = ((M + 7 : Nat) : Int) ∧ g 12 = ((M + 8 : Nat) : Int) ∧ g 13 = ((M + 9 : Nat) : Int) ∧ g 14 = ((M + 10 : Nat) : Int) ∧ g 15 = ((M + 11 : Nat) : Int) ∧ g 16 = ((M + 12 : Nat) : Int) ∧ g 17 = ((M + 13 : Nat) : Int) ∧ g 18 = ((M + 14 : Nat) : Int) ∧ g 23 = ((M + 15 : Nat) : Int) ∧ g 24 = ((M + 16 : Nat) : Int) ∧ g 25 = ((M + 17 : Nat) : Int) ∧ g 26 = ((M + 18 : Nat) : Int) ∧ g 29 = ((M + 19 : Nat) : Int) ∧ g 31 = ((M + 20 : Nat) : Int) ∧ g 32 = ((M + 21 : Nat) : Int) ∧ g 33 = ((M + 22 : Nat) : Int) ∧ g 34 = ((M + 23 : Nat) : Int) ∧ g 35 = ((M + 24 : Nat) : Int) ∧ g 36 = ((M + 25 : Nat) : Int) ∧ g 49 = ((M + 26 : Nat) : Int)
theorem RefS.k0 {K : Shp} {M : Nat} (h : RefS K M) : K[M]? = some (12, 51) := h.1
theorem RefS.k1 {K : Shp} {M : Nat} (h : RefS K M) : K[M + 1]? = some (20, 20000) := h.2.1
theorem RefS.k2 {K : Shp} {M : Nat} (h : RefS K M) : K[M + 2]? = some (20, 100) := h.2.2.1
theorem RefS.k3 {K : Shp} {M : Nat} (h : RefS K M) : K[M + 3]? = some (20, 100) := h.2.2.2.1
theorem RefS.k4 {K : Shp} {M : Nat} (h : RefS K M) : K[M + 4]? = some (20, 100) := h.2.2.2.2.1
theorem RefS.k5 {K : Shp} {M : Nat} (h : RefS K M) : K[M + 5]? = some (20, 200) := h.2.2.2.2.2.1
theorem RefS.k6 {K : Shp} {M : Nat} (h : RefS K M) : K[M + 6]? = some (20, 4) := h.2.2.2.2.2.2.1
theorem RefS.k7 {K : Shp} {M : Nat} (h : RefS K M) : K[M + 7]? = some (20, 4) := h.2.2.2.2.2.2.2.1
theorem RefS.k8 {K : Shp} {M : Nat} (h : RefS K M) : K[M + 8]? = some (20, 4) := h.2.2.2.2.2.2.2.2.1
theorem RefS.k9 {K : Shp} {M : Nat} (h : RefS K M) : K[M + 9]? = some (20, 4) := h.2.2.2.2.2.2.2.2.2.1
theorem RefS.k10 {K : Shp} {M : Nat} (h : RefS K M) : K[M + 10]? = some (20, 4) := h.2.2.2.2.2.2.2.2.2.2.1
theorem RefS.k11 {K : Shp} {M : Nat} (h : RefS K M) : K[M + 11]? = some (20, 400) := h.2.2.2.2.2.2.2.2.2.2.2.1
theorem RefS.k12 {K : Shp} {M : Nat} (h : RefS K M) : K[M + 12]? = some (20, 24) := h.2.2.2.2.2.2.2.2.2.2.2.2.1
theorem RefS.k13 {K : Shp} {M : Nat} (h : RefS K M) : K[M + 13]? = some (20, 24) := h.2.2.2.2.2.2.2.2.2.2.2.2.2.1
theorem RefS.k14 {K : Shp} {M : Nat} (h : RefS K M) : K[M + 14]? = some (20, 6) := h.2.2.2.2.2.2.2.2.2.2.2.2.2.2.1
theorem RefS.k15 {K : Shp} {M : Nat} (h : RefS K M) : K[M + 15]? = some (20, 8) := h.2.2.2.2.2.2.2.2.2.2.2.2.2.2.2.1
theorem RefS.k16 {K : Shp} {M : Nat} (h : RefS K M) : K[M + 16]? = some (20, 8) := h.2.2.2.2.2.2.2.2.2.2.2.2.2.2.2.2.1
theorem RefS.k17 {K : Shp} {M : Nat} (h : RefS K M) : K[M + 17]? = some (20, 4) := h.2.2.2.2.2.2.2.2.2.2.2.2.2.2.2.2.2.1
theorem RefS.k18 {K : Shp} {M : Nat} (h : RefS K M) : K[M + 18]? = some (20, 4) := h.2.2.2.2.2.2.2.2.2.2.2.2.2.2.2.2.2.2.1
theorem RefS.k19 {K : Shp} {M : Nat} (h : RefS K M) : K[M + 19]? = some (20, 6) := h.2.2.2.2.2.2.2.2.2.2.2.2.2.2.2.2.2.2.2.1
theorem RefS.k20 {K : Shp} {M : Nat} (h : RefS K M) : K[M + 20]? = some (20, 5) := h.2.2.2.2.2.2.2.2.2.2.2.2.2.2.2.2.2.2.2.2.1
theorem RefS.k21 {K : Shp} {M : Nat} (h : RefS K M) : K[M + 21]? = some (20, 5) := h.2.2.2.2.2.2.2.2.2.2.2.2.2.2.2.2.2.2.2.2.2.1
theorem RefS.k22 {K : Shp} {M : Nat} (h : RefS K M) : K[M + 22]? = some (20, 5) := h.2.2.2.2.2.2.2.2.2.2.2.2.2.2.2.2.2.2.2.2.2.2.1
theorem RefS.k23 {K : Shp} {M : Nat} (h : RefS K M) : K[M + 23]? = some (20, 10) := h.2.2.2.2.2.2.2.2.2.2.2.2.2.2.2.2.2.2.2.2.2.2.2.1
theorem RefS.k24 {K : Shp} {M : Nat} (h : RefS K M) : K[M + 24]? = some (20, 10) := h.2.2.2.2.2.2.2.2.2.2.2.2.2.2.2.2.2.2.2.2.2.2.2.2.1
theorem RefS.k25 {K : Shp} {M : Nat} (h : RefS K M) : K[M + 25]? = some (22, 2) := h.2.2.2.2.2.2.2.2.2.2.2.2.2.2.2.2.2.2.2.2.2.2.2.2.2.1
theorem RefS.k26 {K : Shp} {M : Nat} (h : RefS K M) : K[M + 26]? = some (20, 48) := h.2.2.2.2.2.2.2.2.2.2.2.2.2.2.2.2.2.2.2.2.2.2.2.2.2.2
theorem RefP.p1 {g : Nat → Int} {M : Nat} (h : RefP g M) : g 1 = ((M + 1 : Nat) : Int) := h.1
theorem RefP.p3 {g : Nat → Int} {M : Nat} (h : RefP g M) : g 3 = ((M + 2 : Nat) : Int) := h.2.1
theorem RefP.p4 {g : Nat → Int} {M : Nat} (h : RefP g M) : g 4 = ((M + 3 : Nat) : Int) := h.2.2.1
theorem RefP.p5 {g : Nat → Int} {M : Nat} (h : RefP g M) : g 5 = ((M + 4 : Nat) : Int) := h.2.2.2.1
theorem RefP.p8 {g : Nat → Int} {M : Nat} (h : RefP g M) : g 8 = ((M + 5 : Nat) : Int) := h.2.2.2.2.1
theorem RefP.p10 {g : Nat → Int} {M : Nat} (h : RefP g M) : g 10 = ((M + 6 : Nat) : Int) := h.2.2.2.2.2.1
theorem RefP.p11 {g : Nat → Int} {M : Nat} (h : RefP g M) : g 11 = ((M + 7 : Nat) : Int) := h.2.2.2.2.2.2.1
theorem RefP.p12 {g : Nat → Int} {M : Nat} (h : RefP g M) : g 12 = ((M + 8 : Nat) : Int) := h.2.2.2.2.2.2.2.1
theorem RefP.p13 {g : Nat → Int} {M : Nat} (h : RefP g M) : g 13 = ((M + 9 : Nat) : Int) := h.2.2.2.2.2.2.2.2.1
theorem RefP.p14 {g : Nat → Int} {M : Nat} (h : RefP g M) : g 14 = ((M + 10 : Nat) : Int) := h.2.2.2.2.2.2.2.2.2.1
theorem RefP.p15 {g : Nat → Int} {M : Nat} (h : RefP g M) : g 15 = ((M + 11 : Nat) : Int) := h.2.2.2.2.2.2.2.2.2.2.1
theorem RefP.p16 {g : Nat → Int} {M : Nat} (h : RefP g M) : g 16 = ((M + 12 : Nat) : Int) := h.2.2.2.2.2.2.2.2.2.2.2.1
theorem RefP.p17 {g : Nat → Int} {M : Nat} (h : RefP g M) : g 17 = ((M + 13 : Nat) : Int) := h.2.2.2.2.2.2.2.2.2.2.2.2.1
theorem RefP.p18 {g : Nat → Int} {M : Nat} (h : RefP g M) : g 18 = ((M + 14 : Nat) : Int) := h.2.2.2.2.2.2.2.2.2.2.2.2.2.1
theorem RefP.p23 {g : Nat → Int} {M : Nat} (h : RefP g M) : g 23 = ((M + 15 : Nat) : Int) := h.2.2.2.2.2.2.2.2.2.2.2.2.2.2.1
theorem RefP.p24 {g : Nat → Int} {M : Nat} (h : RefP g M) : g 24 = ((M + 16 : Nat) : Int) := h.2.2.2.2.2.2.2.2.2.2.2.2.2.2.2.1
theorem RefP.p25 {g : Nat → Int} {M : Nat} (h : RefP g M) : g 25 = ((M + 17 : Nat) : Int) := h.2.2.2.2.2.2.2.2.2.2.2.2.2.2.2.2.1
theorem RefP.p26 {g : Nat → Int} {M : Nat} (h : RefP g M) : g 26 = ((M + 18 : Nat) : Int) := h.2.2.2.2.2.2.2.2.2.2.2.2.2.2.2.2.2.1
theorem RefP.p29 {g : Nat → Int} {M : Nat} (h : RefP g M) : g 29 = ((M + 19 : Nat) : Int) := h.2.2.2.2.2.2.2.2.2.2.2.2.2.2.2.2.2.2.1
theorem RefP.p31 {g : Nat → Int} {M : Nat} (h : RefP g M) : g 31 = ((M + 20 : Nat) : Int) := h.2.2.2.2.2.2.2.2.2.2.2.2.2.2.2.2.2.2.2.1
theorem RefP.p32 {g : Nat → Int} {M : Nat} (h : RefP g M) : g 32 = ((M + 21 : Nat) : Int) := h.2.2.2.2.2.2.2.2.2.2.2.2.2.2.2.2.2.2.2.2.1
theorem RefP.p33 {g : Nat → Int} {M : Nat} (h : RefP g M) : g 33 = ((M + 22 : Nat) : Int) := h.2.2.2.2.2.2.2.2.2.2.2.2.2.2.2.2.2.2.2.2.2.1
theorem RefP.p34 {g : Nat → Int} {M : Nat} (h : RefP g M) : g 34 = ((M + 23 : Nat) : Int) := h.2.2.2.2.2.2.2.2.2.2.2.2.2.2.2.2.2.2.2.2.2.2.1
theorem RefP.p35 {g : Nat → Int} {M : Nat} (h : RefP g M) : g 35 = ((M + 24 : Nat) : Int) := h.2.2.2.2.2.2.2.2.2.2.2.2.2.2.2.2.2.2.2.2.2.2.2.1
theorem RefP.p36 {g : Nat → Int} {M : Nat} (h : RefP g M) : g 36 = ((M + 25 : Nat) : Int) := h.2.2.2.2.2.2.2.2.2.2.2.2.2.2.2.2.2.2.2.2.2.2.2.2.1
theorem RefP.p49 {g : Nat → Int} {M : Nat} (h : RefP g M) : g 49 = ((M + 26 : Nat) : Int) := h.2.2.2.2.2.2.2.2.2.2.2.2.2.2.2.2.2.2.2.2.2.2.2.2.2
def npF (k : Nat) : Bool := !([1, 3, 4, 5, 8, 10, 11, 12, 13, 14, 15, 16, 17, 18, 23, 24, 25, 26, 29, 31, 32, 33, 34, 35, 36, 49].contains k)
def FO (l : List Nat) (g g' : Nat → Int) : Prop := ∀ k, l.contains k = false → g' k = g k
def FC (M : Nat) (l : List Nat) (H H' : Mem) : Prop := ∀ x, (∀ j, l.contains j = true → x ≠ M + j) → H' x = H x
theorem FO.rf {l : List Nat} {g : Nat → Int} : FO l g g := fun _ _ => rfl
theorem FC.rf {M : Nat} {l : List Nat} {H : Mem} : FC M l H H := fun _ _ => rfl
theorem all_sub {l l' : List Nat} (h : l.all (fun k => l'.contains k) = true) {k : Nat} (hk : l'.contains k = false) : l.contains k = false := by
  cases h2 : l.contains k with
  | false => rfl
  | true =>
    have := List.all_eq_true.mp h k (List.contains_iff_mem.mp h2)
    rw [hk] at this
    cases this
theorem FO.wide {l l' : List Nat} {g g' : Nat → Int} (h : FO l g g') (hl : l.all (fun k => l'.contains k) = true) : FO l' g g' := fun k hk => h k (all_sub hl hk)
theorem FO.tr {l1 l2 l : List Nat} {g g' g2 : Nat → Int} (h1 : FO l1 g g') (h2 : FO l2 g' g2) (e1 : l1.all (fun k => l.contains k) = true) (e2 : l2.all (fun k => l.contains k) = true) : FO l g g2 := fun k hk => (h2 k (all_sub e2 hk)).trans (h1 k (all_sub e1 hk))
theorem FC.wide {M : Nat} {l l' : List Nat} {H H' : Mem} (h : FC M l H H') (hl : l.all (fun k => l'.contains k) = true) : FC M l' H H' := fun x hx => h x (fun j hj => hx j (by
  cases h2 : l'.contains j with
  | true => rfl
  | false => rw [all_sub hl h2] at hj; cases hj))
theorem FC.tr {M : Nat} {l1 l2 l : List Nat} {H H' H2 : Mem} (h1 : FC M l1 H H') (h2 : FC M l2 H' H2) (e1 : l1.all (fun k => l.contains k) = true) (e2 : l2.all (fun k => l.contains k) = true) : FC M l H H2 := fun x hx => ((h2.wide e2) x hx).trans ((h1.wide e1) x hx)
theorem FC.at {M : Nat} {l : List Nat} {H H' : Mem} (h : FC M l H H') (j : Nat) (hj : l.contains j = false) : H' (M + j) = H (M + j) := h (M + j) (fun i hi e => by
  have : i = j := by omega
  rw [this, hj] at hi
  cases hi)
theorem FC.self {M : Nat} {l : List Nat} {H H' : Mem} (h : FC M l H H') (hj : l.contains 0 = false) : H' M = H M := h.at 0 hj
theorem FC.lt {M : Nat} {l : List Nat} {H H' : Mem} (h : FC M l H H') {x : Nat} (hx : x < M) : H' x = H x := h x (fun j _ => by omega)
theorem FC.up {M : Nat} {l : List Nat} {H : Mem} {j : Nat} {f : Nat → Int} (hj : l.contains j = true) : FC M l H (upA H (M + j) f) := fun x hx => upA_ne (hx j hj)
theorem FC.up0 {M : Nat} {l : List Nat} {H : Mem} {f : Nat → Int} (hj : l.contains 0 = true) : FC M l H (upA H M f) := fun x hx => upA_ne (hx 0 hj)
theorem FO.up {l : List Nat} {g : Nat → Int} {k : Nat} {x : Int} (hk : l.contains k = true) : FO l g (up1 g k x) := fun j hj => up1_ne (fun e => by rw [e, hk] at hj; cases hj)
theorem RefP.cong {g g' : Nat → Int} {M : Nat} (h : RefP g M) (l : List Nat) (hl : l.all npF = true) (e : FO l g g') : RefP g' M := by
  have q : ∀ k, npF k = false → g' k = g k := fun k hk => e k (by
    cases h2 : l.contains k with
    | false => rfl
    | true =>
      have := List.all_eq_true.mp hl k (List.contains_iff_mem.mp h2)
      rw [hk] at this
      cases this)
  exact ⟨(q 1 rfl).trans h.p1, (q 3 rfl).trans h.p3, (q 4 rfl).trans h.p4, (q 5 rfl).trans h.p5, (q 8 rfl).trans h.p8, (q 10 rfl).trans h.p10, (q 11 rfl).trans h.p11, (q 12 rfl).trans h.p12, (q 13 rfl).trans h.p13, (q 14 rfl).trans h.p14, (q 15 rfl).trans h.p15, (q 16 rfl).trans h.p16, (q 17 rfl).trans h.p17, (q 18 rfl).trans h.p18, (q 23 rfl).trans h.p23, (q 24 rfl).trans h.p24, (q 25 rfl).trans h.p25, (q 26 rfl).trans h.p26, (q 29 rfl).trans h.p29, (q 31 rfl).trans h.p31, (q 32 rfl).trans h.p32, (q 33 rfl).trans h.p33, (q 34 rfl).trans h.p34, (q 35 rfl).trans h.p35, (q 36 rfl).trans h.p36, (q 49 rfl).trans h.p49⟩
