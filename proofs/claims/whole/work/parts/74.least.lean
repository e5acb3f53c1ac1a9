/-! RodBeam$Beam: reckonLeast -/
def FrL (X : Nat) (H H' : Mem) : Prop := (∀ x, (x < X + 21 ∨ X + 53 < x ∨ x = X + 22 ∨ x = X + 23) → H' x = H x) ∧ ∀ k, k ≠ 5 → k ≠ 6 → H' (X + 21) k = H (X + 21) k
theorem FrL.rf {X : Nat} {H : Mem} : FrL X H H := ⟨fun _ _ => rfl, fun _ _ _ => rfl⟩
theorem FrL.kept {X : Nat} {H H' : Mem} (h : FrL X H H') : Kept X H H' := fun x k hk => by
  unfold keepP at hk
  by_cases e : x = X + 21
  · subst e; exact h.2 k (by omega) (by omega)
  · rw [h.1 x (by omega)]
theorem FrL.cells {X : Nat} {H H' H2 : Mem} (h : FrL X H H') (e : ∀ x, (x ≤ X + 23 ∨ X + 53 < x) → H2 x = H' x) : FrL X H H2 := ⟨fun x hx => (e x (by omega)).trans (h.1 x hx), fun k a b => by rw [e _ (by omega)]; exact h.2 k a b⟩
def SpB (H : Mem) (X n ld : Nat) : Prop := H (X + 54 + 3 * n) 2 = (ld : Int) ∧ ld ≤ 2 ∧ (2 ≤ H (X + 54 + 3 * n) 0 ∧ H (X + 54 + 3 * n) 0 ≤ 50) ∧ ∀ k, k < ld → (1 ≤ H (X + 54 + 3 * n + 1) k ∧ H (X + 54 + 3 * n + 1) k < H (X + 54 + 3 * n) 0) ∧ 1 ≤ H (X + 54 + 3 * n + 2) k ∧ H (X + 54 + 3 * n + 2) k ≤ 1000
theorem SpB.cells {H H' : Mem} {X n ld : Nat} (h : SpB H X n ld) (e : ∀ j, j < 3 → H' (X + 54 + 3 * n + j) = H (X + 54 + 3 * n + j)) : SpB H' X n ld := by
  unfold SpB at *
  rw [show H' (X + 54 + 3 * n) = H (X + 54 + 3 * n) from e 0 (by omega), e 1 (by omega), e 2 (by omega)]; exact h
section Rl
variable {d : Nat} {K : Shp} {H : Mem} {X c : Nat} {nb nr sx ld : Nat → Nat}
theorem BmI.fr {H' : Mem} (h : BmI K H X c nb nr sx) (e : FrL X H H') (w : WkP (H' (X + 46)) (X + 46)) : BmI K H' X c nb nr sx := by
  obtain ⟨h1, h2, h3, h4, h5, h6, h7⟩ := h
  exact ⟨h1, h2.keep e.kept, w, fun i hi => (h4 i hi).keepc (fun j hj => e.1 _ (by omega)), by rw [e.2 0 (by decide) (by decide)]; exact h5, h6, fun j hj => by rw [e.1 _ (by omega)]; exact h7 j hj⟩
theorem hgF_fr {H' : Mem} {hi : Int} {j : Nat} (e : FrL X H H') : hgF H' X nb nr sx hi j = hgF H X nb nr sx hi j := bendP_keep (fun i hi' => e.1 _ (by omega))
theorem tV_fr {H' : Mem} {n l : Nat} (e : FrL X H H') : tV H' X c nb nr sx ld n l = tV H X c nb nr sx ld n l := by
  unfold tV
  rw [e.1 (X + 23) (by omega), e.1 (X + 54 + 3 * n) (by omega), e.1 (X + 54 + 3 * n + 1) (by omega), e.1 (X + 54 + 3 * n + 2) (by omega), hgF_fr e, show hgF H' X nb nr sx 0 = hgF H X nb nr sx 0 from funext fun j => hgF_fr e]
theorem tV_val {n l : Nat} {T1 C1 T2 C2 p r : Int} (h : BmI K H X c nb nr sx) (hn : n < c) (h1 : HogIs c (H (X + 23) 0) (H (X + 23) 1) (hgF H X nb nr sx 0) n T1 C1) (h2 : HogIs c (H (X + 23) 0) (H (X + 23) 1) (hgF H X nb nr sx 0) (n + 1) T2 C2)
    (e : p * ((hgF H X nb nr sx 1 n).2 * C1 * C2 * sumN (freeT (H (X + 54 + 3 * n) 0) (H (X + 54 + 3 * n + 1)) (H (X + 54 + 3 * n + 2)) (H (X + 54 + 3 * n + 1) l)) (ld n)) = timT (hgF H X nb nr sx 1 n).1 (hgF H X nb nr sx 1 n).2 T1 C1 T2 C2 (H (X + 54 + 3 * n) 0) (H (X + 54 + 3 * n + 1) l) * r) : p * (tV H X c nb nr sx ld n l).2 = (tV H X c nb nr sx ld n l).1 * r :=
  tim_val h1.val h2.val (h1.bd h.2.2.2.2.2.1.1 (by omega) (h.hb 0)).1.1 (h2.bd h.2.2.2.2.2.1.1 (by omega) (h.hb 0)).1.1 e
theorem free_pos {n l : Nat} (sp : SpB H X n (ld n)) (hl : l < ld n) : 0 < sumN (freeT (H (X + 54 + 3 * n) 0) (H (X + 54 + 3 * n + 1)) (H (X + 54 + 3 * n + 2)) (H (X + 54 + 3 * n + 1) l)) (ld n) := by
  obtain ⟨s1, s2, s3, s4⟩ := sp
  have gl := s4 l hl
  refine sumN_pos (l := l) (fun j hj => ?_) hl ?_
  · have g := s4 j hj
    exact (free_bd (by omega) (by omega) (by omega) (by omega) (by omega) (by omega)).2.1
  · exact Int.mul_pos (Int.mul_pos (by omega) (by omega)) (by omega)
theorem tV_pos {n l : Nat} (h : BmI K H X c nb nr sx) (hn : n < c) (sp : SpB H X n (ld n)) (hl : l < ld n) : 0 < (tV H X c nb nr sx ld n l).2 := by
  have F := free_pos sp hl
  have hp : ∀ k, k ≤ c → 0 < (hogV c (H (X + 23) 0) (H (X + 23) 1) (hgF H X nb nr sx 0) k).2 := fun k hk => hogV_ind (P := fun x => 0 < x.2) (by decide) (fun j hj => (h.hb 0 j hj).1.1) h.2.2.2.2.2.1.1 hk
  exact Int.mul_pos (Int.mul_pos (Int.mul_pos (h.hb 1 n hn).1.1 (hp n (by omega))) (hp (n + 1) (by omega))) F
theorem reckon_at {H1 : Mem} {n l : Nat} {q : Mem → Prop} (h : BmI K H X c nb nr sx) (sp : ∀ j, j < c → SpB H X j (ld j)) (f : FrL X H H1) (hr : RatK K H1 (X + 24)) (w : WkP (H1 (X + 46)) (X + 46)) (hn : n < c) (hl : l < ld n)
    (hq : ∀ H' p r, (∀ x, (x ≤ X + 24 ∨ X + 34 < x) → (x < X + 46 ∨ X + 53 < x) → H' x = H1 x) → FrL X H H' → RatK K H' (X + 24) → WkP (H' (X + 46)) (X + 46) → Dig (H' (X + 24 + 2)) p → Dig (H' (X + 24 + 4)) r → Red p r → p * (tV H X c nb nr sx ld n l).2 = (tV H X c nb nr sx ld n l).1 * r → p ≤ 18432000000000000000000 → r ≤ 2560000000000000000000 → q H') :
    Cv mX0_reckon (d + 4) [(2, ((X + 21 : Nat) : Int)), (2, ((X + 14 : Nat) : Int)), (0, (n : Int)), (0, (l : Int))] K H1 q := by
  have I1 := h.fr f w
  have s1 : SpB H1 X n (ld n) := (sp n hn).cells (fun j hj => f.1 _ (by omega))
  obtain ⟨a1, a2, a3, a4⟩ := id s1
  refine sp_X0_reckon (ld := ld n) I1 hr hn a1 a2 hl a3 a4 ?_
  intro H' T1 C1 T2 C2 p r g1 g2 o k' w' dp dr rd e lp lr _
  have v := tV_val (ld := ld) I1 hn g1 g2 e
  rw [tV_fr f] at v
  exact hq H' p r o (f.cells (fun x hx => o x (by omega) (by omega))) k' w' dp dr rd v lp lr
/-- what reckonLeast keeps -/
def LsI (K : Shp) (H H' : Mem) (X c : Nat) (nb nr sx ld : Nat → Nat) (a b : Nat) (v : Int) : Prop := FrL X H H' ∧ RatK K H' (X + 24) ∧ RatK K H' (X + 35) ∧ WkP (H' (X + 46)) (X + 46) ∧
  ((v = 0 ∧ ∀ i k, ¬ Vis ld a b i k) ∨ (v = 1 ∧ ∃ i k p r, LeastIn (tV H X c nb nr sx ld) ld a b i k ∧ H' (X + 21) 5 = ((i : Nat) : Int) ∧ H' (X + 21) 6 = ((k : Nat) : Int) ∧ Dig (H' (X + 35 + 2)) p ∧ Dig (H' (X + 35 + 4)) r ∧ Red p r ∧ p * (tV H X c nb nr sx ld i k).2 = (tV H X c nb nr sx ld i k).1 * r ∧ p ≤ 18432000000000000000000 ∧ r ≤ 2560000000000000000000))
theorem prod54 {p r : Int} (hp : p ≤ 18432000000000000000000) (hr : r ≤ 2560000000000000000000) (p0 : 0 ≤ p) (r0 : 0 ≤ r) : p * r < 1000000000000000000000000000000000000000000000000000000 := by
  have := Int.mul_le_mul hp hr r0 (by omega)
  omega
theorem ls_put {H1 : Mem} {a b : Nat} {p r : Int} {q : Mem → Prop} (f : FrL X H H1) (r1 : RatK K H1 (X + 24)) (r2 : RatK K H1 (X + 35)) (w : WkP (H1 (X + 46)) (X + 46)) (dp : Dig (H1 (X + 24 + 2)) p) (dr : Dig (H1 (X + 24 + 4)) r) (rd : Red p r) (e : p * (tV H X c nb nr sx ld a b).2 = (tV H X c nb nr sx ld a b).1 * r) (lp : p ≤ 18432000000000000000000) (lr : r ≤ 2560000000000000000000)
    (lst : LeastIn (tV H X c nb nr sx ld) ld a (b + 1) a b) (hq : ∀ H', LsI K H H' X c nb nr sx ld a (b + 1) 1 → q H') :
    Cv mX3_copy (d + 4) [(2, ((X + 35 : Nat) : Int)), (2, ((X + 24 : Nat) : Int))] K H1 (fun H17 => ∀ H19 : Mem, H19 = upA H17 (X + 21) (up1 (H17 (X + 21)) 5 (a : Int)) → ∀ H20 : Mem, H20 = upA H19 (X + 21) (up1 (H19 (X + 21)) 6 (b : Int)) → q H20) := by
  refine (sp_X3_copy r2 r1 (by omega) dp dr).mono ?_
  rintro H2 ⟨k2, k1, s2, d1, d2⟩ H3 e3 H4 e4
  have c4 : ∀ x, x ≠ X + 21 → H4 x = H2 x := fun x hx => by rw [e4, upA_ne hx, e3, upA_ne hx]
  have c2 : ∀ x, (x ≤ X + 35 ∨ X + 45 < x) → H2 x = H1 x := fun x hx => s2 x (show ¬ (X + 35 < x ∧ x ≤ X + 35 + 10) by omega)
  have v3 : H3 (X + 21) = up1 (H2 (X + 21)) 5 (a : Int) := by rw [e3, upA_same]
  have v4 : H4 (X + 21) = up1 (up1 (H2 (X + 21)) 5 (a : Int)) 6 (b : Int) := by rw [e4, upA_same, v3]
  refine hq H4 ⟨⟨fun x hx => ?_, fun k g5 g6 => ?_⟩, k1.cells (fun j hj => c4 _ (by omega)), k2.cells (fun j hj => c4 _ (by omega)), ?_, Or.inr ⟨rfl, a, b, p, r, lst, ?_, ?_, ?_, ?_, rd, e, lp, lr⟩⟩
  · rw [c4 x (by omega), c2 x (by omega)]; exact f.1 x hx
  · rw [v4, up1_ne g6, up1_ne g5, c2 _ (by omega)]; exact f.2 k g5 g6
  · rw [c4 _ (by omega), c2 _ (by omega)]; exact w
  · rw [v4, up1_ne (by decide), up1_same]
  · rw [v4, up1_same]
  · rw [c4 _ (by omega)]; exact d1
  · rw [c4 _ (by omega)]; exact d2
set_option maxHeartbeats 1000000 in
theorem ls_in {q : Int → Mem → Prop} {a : Nat} (h : BmI K H X c nb nr sx) (sp : ∀ j, j < c → SpB H X j (ld j)) (ha : a < c)
    (ho : ∀ H' v, LsI K H H' X c nb nr sx ld (a + 1) 0 v → FX0_reckonLeast_4 (d + 4) K H' q ((X + 21 : Nat) : Int) ((X + 14 : Nat) : Int) v ((a + 1 : Nat) : Int)) :
    ∀ m b v H1, ld a - b = m → b ≤ ld a → LsI K H H1 X c nb nr sx ld a b v → FX0_reckonLeast_15 (d + 4) K H1 q ((X + 21 : Nat) : Int) ((X + 14 : Nat) : Int) v (a : Int) (b : Int) := by
  intro m
  induction m with
  | zero =>
    intro b v H1 hm hb L
    have f := L.1
    have r1 := L.2.1
    have r2 := L.2.2.1
    have w := L.2.2.2.1
    have I1 := h.fr f w
    have s1 : SpB H1 X a (ld a) := (sp a ha).cells (fun j hj => f.1 _ (by omega))
    have g2 := s1.1
    have c5 := h.2.2.2.2.2.1.2
    refine bX0_reckonLeast_15 ?_
    simp only [Int.toNat_natCast, Option.some.injEq, Prod.mk.injEq, true_and, and_true, exists_eq_left', I1.1.2.2.2.2.2.2.1, I1.2.1.2.2.2.2.2.1.1, I1.1.2.2.2.2.2.2.2.1, I1.2.1.2.2.2.2.2.2.1 a (by omega), (I1.1.2.2.2.2.2.2.2.2.2.2.2.1 a (by omega)).1, g2]
    refine ⟨by omega, by omega, by omega, by omega, by omega, fun _ => ⟨⟨by omega, by omega⟩, ho H1 v ⟨f, r1, r2, w, ?_⟩⟩, fun g => by omega⟩
    rcases L.2.2.2.2 with ⟨e, no⟩ | ⟨e, i, k, p, r, lst, rest⟩
    · exact Or.inl ⟨e, fun i k hv => no i k (hv.row (by omega))⟩
    · exact Or.inr ⟨e, i, k, p, r, lst.row (by omega), rest⟩
  | succ m ih =>
    intro b v H1 hm hb L
    have f := L.1
    have r1 := L.2.1
    have r2 := L.2.2.1
    have w := L.2.2.2.1
    have I1 := h.fr f w
    have s1 : SpB H1 X a (ld a) := (sp a ha).cells (fun j hj => f.1 _ (by omega))
    have g2 := s1.1
    have ld2 := s1.2.1
    have c5 := h.2.2.2.2.2.1.2
    have tp : ∀ i k, Vis ld a (b + 1) i k → 0 < (tV H X c nb nr sx ld i k).2 := fun i k hv => tV_pos h (by unfold Vis at hv; omega) (sp i (by unfold Vis at hv; omega)) hv.1
    refine bX0_reckonLeast_15 ?_
    simp only [Int.toNat_natCast, Option.some.injEq, Prod.mk.injEq, true_and, and_true, exists_eq_left', I1.1.2.2.2.2.2.2.1, I1.2.1.2.2.2.2.2.1.1, I1.1.2.2.2.2.2.2.2.1, I1.2.1.2.2.2.2.2.2.1 a (by omega), (I1.1.2.2.2.2.2.2.2.2.2.2.2.1 a (by omega)).1, g2]
    refine ⟨by omega, by omega, by omega, by omega, by omega, fun g => by omega, fun _ => reckon_at h sp f r1 w ha (by omega) ?_⟩
    intro H2 p r o f2 k2 w2 dp dr rd e lp lr
    have r22 : RatK K H2 (X + 35) := r2.cells (fun j hj => o _ (by omega) (by omega))
    have I2 := h.fr f2 w2
    have bm := I2.2.1.2.2.2.2.2.1
    have q1 : ∀ H', LsI K H H' X c nb nr sx ld a (b + 1) 1 → (inI ((b : Int) + 1)) ∧ FX0_reckonLeast_15 (d + 4) K H' q ((X + 21 : Nat) : Int) ((X + 14 : Nat) : Int) 1 (a : Int) ((b : Int) + 1) := fun H' g => ⟨⟨by omega, by omega⟩, ih (b + 1) 1 H' (by omega) (by omega) g⟩
    simp only [Int.toNat_natCast, Option.some.injEq, Prod.mk.injEq, true_and, and_true, exists_eq_left', bm.2.2.1, bm.2.2.2.1, r22.1, k2.1]
    rcases L.2.2.2.2 with ⟨e0, no⟩ | ⟨e0, i, k, p', r', lst, x5, x6, dp', dr', rd', e', lp', lr'⟩
    · refine ⟨fun _ => ⟨by omega, ls_put f2 k2 r22 w2 dp dr rd e lp lr (LeastIn.first (by omega) no) q1⟩, fun g => absurd e0 g⟩
    · have va : Vis ld a (b + 1) a b := ⟨by omega, by omega⟩
      have p0 : 0 ≤ p := dp.nonneg
      have p0' : 0 ≤ p' := dp'.nonneg
      have lt := feq_lt e e' rd.1 (tp _ _ va) rd'.1 (tp _ _ lst.1.mono)
      refine ⟨fun g => by omega, fun _ => ⟨by omega, (sp_X3_isUnder k2 r22 (by omega) dp dr (u := p') (v := r') (by rw [o _ (by omega) (by omega)]; exact dp') (by rw [o _ (by omega) (by omega)]; exact dr') (prod54 lp lr' p0 (Int.le_of_lt rd'.1)) (prod54 lp' lr p0' (Int.le_of_lt rd.1))).mono ?_⟩⟩
      rintro z H3 ⟨ez, k3, r3, s3⟩
      have c3 : ∀ x, (x ≤ X + 24 ∨ X + 34 < x) → H3 x = H2 x := fun x hx => s3 x (show ¬ (x = X + 24 + 6 ∨ x = X + 24 + 8) by omega)
      have f3 : FrL X H H3 := f2.cells (fun x hx => c3 x (by omega))
      have w3 : WkP (H3 (X + 46)) (X + 46) := by rw [c3 _ (by omega)]; exact w2
      have bm3 := (h.fr f3 w3).2.1.2.2.2.2.2.1
      simp only [Int.toNat_natCast, Option.some.injEq, Prod.mk.injEq, true_and, and_true, exists_eq_left', bm3.2.2.1, bm3.2.2.2.1, r3.1]
      refine ⟨fun g => ?_, fun g => ⟨by omega, ls_put f3 k3 r3 w3 (by rw [s3 _ (show ¬ (X + 24 + 2 = X + 24 + 6 ∨ X + 24 + 2 = X + 24 + 8) by omega)]; exact dp) (by rw [s3 _ (show ¬ (X + 24 + 4 = X + 24 + 6 ∨ X + 24 + 4 = X + 24 + 8) by omega)]; exact dr) rd e lp lr (lst.new (by omega) tp (lt.mp ?_)) q1⟩⟩
      · have nl : ¬ p * r' < p' * r := fun hl => by rw [if_pos hl] at ez; omega
        refine ⟨⟨by omega, by omega⟩, ih (b + 1) v H3 (by omega) (by omega) ⟨f3, k3, r3, w3, Or.inr ⟨e0, i, k, p', r', lst.old (fun hl => nl (lt.mpr hl)), ?_, ?_, ?_, ?_, rd', e', lp', lr'⟩⟩⟩
        · rw [c3 _ (by omega), o _ (by omega) (by omega)]; exact x5
        · rw [c3 _ (by omega), o _ (by omega) (by omega)]; exact x6
        · rw [c3 _ (by omega), o _ (by omega) (by omega)]; exact dp'
        · rw [c3 _ (by omega), o _ (by omega) (by omega)]; exact dr'
      · by_cases hl : p * r' < p' * r
        · exact hl
        · rw [if_neg hl] at ez; exact absurd ez g
theorem ls_out {q : Int → Mem → Prop} (h : BmI K H X c nb nr sx) (sp : ∀ j, j < c → SpB H X j (ld j)) (hq : ∀ H' v, (v = 0 ∨ v = 1) → LsI K H H' X c nb nr sx ld c 0 v → q v H') :
    ∀ m a v H1, c - a = m → a ≤ c → LsI K H H1 X c nb nr sx ld a 0 v → FX0_reckonLeast_4 (d + 4) K H1 q ((X + 21 : Nat) : Int) ((X + 14 : Nat) : Int) v (a : Int) := by
  intro m
  induction m with
  | zero =>
    intro a v H1 hm ha L
    have I1 := h.fr L.1 L.2.2.2.1
    have v01 : v = 0 ∨ v = 1 := by
      rcases L.2.2.2.2 with ⟨e, _⟩ | ⟨e, _⟩
      · exact Or.inl e
      · exact Or.inr e
    have ea : a = c := by omega
    refine bX0_reckonLeast_4 ?_
    simp only [Int.toNat_natCast, Option.some.injEq, Prod.mk.injEq, true_and, and_true, exists_eq_left', I1.1.2.2.2.2.2.2.1, I1.2.2.2.2.1]
    exact ⟨by omega, fun _ => ⟨v01, hq H1 v v01 (by rw [ea] at L; exact L)⟩, fun g => by omega⟩
  | succ m ih =>
    intro a v H1 hm ha L
    have I1 := h.fr L.1 L.2.2.2.1
    refine bX0_reckonLeast_4 ?_
    simp only [Int.toNat_natCast, Option.some.injEq, Prod.mk.injEq, true_and, and_true, exists_eq_left', I1.1.2.2.2.2.2.2.1, I1.2.2.2.2.1]
    exact ⟨by omega, fun g => by omega, fun _ => ls_in h sp (by omega) (fun H' v' L' => ih (a + 1) v' H' (by omega) (by omega) L') _ 0 v H1 rfl (by omega) L⟩
end Rl
