/-! RodBeam$Sizes: isIdle; RodBeam$Chooser: the asks -/
def idleP (st pr : Nat → Int) (c : Nat) (num : Int) : Prop := ∃ o, o < c ∧ (pr o < szOf pr c num ∨ (pr o = szOf pr c num ∧ (o : Int) < num)) ∧ szOf st c num ≤ st o
theorem idle_18 {d : Nat} {K : Shp} {H : Mem} {p c : Nat} {num a b : Int} {q : Int → Mem → Prop} (h : TriK 6 4 K H p) (hc : H p 0 = (c : Int)) (hc2 : c ≤ 4) (h1 : (∃ o, o < c ∧ (H (p + 2) o < a ∨ (H (p + 2) o = a ∧ (o : Int) < num)) ∧ b ≤ H (p + 1) o) → q 1 H) (h0 : (¬ ∃ o, o < c ∧ (H (p + 2) o < a ∨ (H (p + 2) o = a ∧ (o : Int) < num)) ∧ b ≤ H (p + 1) o) → q 0 H) :
    ∀ m k, c - k = m → k ≤ c → (∀ o, o < k → ¬ ((H (p + 2) o < a ∨ (H (p + 2) o = a ∧ (o : Int) < num)) ∧ b ≤ H (p + 1) o)) → FX6_isIdle_18 d K H q (p : Int) num a b 0 (k : Int) := by
  obtain ⟨k0, k1, k2, p1, p2⟩ := h
  intro m
  induction m with
  | zero =>
    intro k hm hk no
    refine bX6_isIdle_18 ?_
    simp only [Int.toNat_natCast, Option.some.injEq, Prod.mk.injEq, true_and, and_true, exists_eq_left', k0, hc]
    refine ⟨by omega, fun _ => ⟨by simp, h0 ?_⟩, fun g => by omega⟩
    rintro ⟨o, o1, o2⟩
    exact no o (by omega) o2
  | succ m ih =>
    intro k hm hk no
    have n0 : ¬ ((H (p + 2) k < a ∨ (H (p + 2) k = a ∧ (k : Int) < num)) ∧ b ≤ H (p + 1) k) → FX6_isIdle_88 d K H q (p : Int) num a b (k : Int) 0 := fun nk => bX6_isIdle_88 ⟨⟨by omega, by omega⟩, ih (k + 1) (by omega) (by omega) (fun o ho => by
      by_cases e : o = k
      · rw [e]; exact nk
      · exact no o (by omega))⟩
    have n1 : ((H (p + 2) k < a ∨ (H (p + 2) k = a ∧ (k : Int) < num)) ∧ b ≤ H (p + 1) k) → FX6_isIdle_88 d K H q (p : Int) num a b (k : Int) 1 := fun yk => by
      have q1 := h1 ⟨k, by omega, yk⟩
      refine bX6_isIdle_88 ⟨⟨by omega, by omega⟩, bX6_isIdle_18 ?_⟩
      simp only [Int.toNat_natCast, Option.some.injEq, Prod.mk.injEq, true_and, and_true, exists_eq_left', k0, hc]
      exact ⟨by omega, fun _ => ⟨by simp, q1⟩, fun _ => ⟨fun _ => ⟨by simp, q1⟩, fun g => absurd g (by decide)⟩⟩
    have f0 : ¬ (H (p + 2) k < a ∨ (H (p + 2) k = a ∧ (k : Int) < num)) → FX6_isIdle_65 d K H q (p : Int) num a b (k : Int) 0 := fun nk => bX6_isIdle_65 ⟨fun _ => n0 (fun x => nk x.1), fun g => absurd rfl g⟩
    have f1 : (H (p + 2) k < a ∨ (H (p + 2) k = a ∧ (k : Int) < num)) → FX6_isIdle_65 d K H q (p : Int) num a b (k : Int) 1 := fun yk => by
      refine bX6_isIdle_65 ?_
      simp only [Int.toNat_natCast, Option.some.injEq, Prod.mk.injEq, true_and, and_true, exists_eq_left', k0, p1, k1]
      exact ⟨fun g => absurd g (by decide), fun _ => ⟨by omega, by omega, by omega, by omega, fun g => n0 (fun x => by omega), fun g => n1 ⟨yk, by omega⟩⟩⟩
    refine bX6_isIdle_18 ?_
    simp only [Int.toNat_natCast, Option.some.injEq, Prod.mk.injEq, true_and, and_true, exists_eq_left', k0, hc, p2, k2]
    refine ⟨by omega, fun g => by omega, fun _ => ⟨fun g => absurd trivial g, fun _ => ⟨by omega, by omega, by omega, fun g => f1 (Or.inl g), fun g => ⟨fun g2 => f0 (by omega), fun g2 => ⟨fun g3 => f0 (by omega), fun g3 => f1 (Or.inr ⟨g2, g3⟩)⟩⟩⟩⟩⟩
theorem sp_X6_isIdle {d : Nat} {K : Shp} {H : Mem} {p c : Nat} {num : Int} {q : Int → Mem → Prop} (h : TriK 6 4 K H p) (hc : H p 0 = (c : Int)) (hc2 : c ≤ 4) (h1 : idleP (H (p + 1)) (H (p + 2)) c num → q 1 H) (h0 : ¬ idleP (H (p + 1)) (H (p + 2)) c num → q 0 H) : Ci mX6_isIdle (d + 1) [(2, (p : Int)), (0, num)] K H q := by
  refine eX6_isIdle fun _ _ => bX6_isIdle_0 ?_
  simp only [Int.toNat_natCast, Option.some.injEq, Prod.mk.injEq, true_and, and_true, exists_eq_left', h.1]
  refine ⟨by omega, (sp_X6_priceOf h hc hc2).mono ?_⟩
  rintro x _ ⟨rfl, rfl⟩
  refine (sp_X6_strengthOf h hc hc2).mono ?_
  rintro y _ ⟨rfl, rfl⟩
  exact idle_18 h hc hc2 h1 h0 _ 0 rfl (by omega) (fun o ho => absurd ho (by omega))
/-- the asks: entries are sides of pairs; each side that Z does not bear is among them -/
def AskD (Z : Int → Int → Int → Prop) (D : Nat → Int → Prop) (np : Nat) (pn pm : Nat → Int) (ka : Nat) (ap ab ah : Nat → Int) : Prop :=
  (∀ j, j < ka → (ah j = 0 ∨ ah j = 1) ∧ ∃ p, p < np ∧ ap j = pn p ∧ ab j = pm p) ∧ ∀ p hi, D p hi → ¬ Z hi (pn p) (pm p) → ∃ j, j < ka ∧ ap j = pn p ∧ ab j = pm p ∧ ah j = hi
theorem AskD.skip {Z : Int → Int → Int → Prop} {D : Nat → Int → Prop} {np ka p : Nat} {pn pm ap ab ah : Nat → Int} {hi : Int} (h : AskD Z D np pn pm ka ap ab ah) (hz : Z hi (pn p) (pm p)) : AskD Z (fun p' hi' => D p' hi' ∨ (p' = p ∧ hi' = hi)) np pn pm ka ap ab ah := by
  refine ⟨h.1, fun p' hi' hd hn => ?_⟩
  rcases hd with hd | ⟨e1, e2⟩
  · exact h.2 p' hi' hd hn
  · rw [e1, e2] at hn; exact absurd hz hn
theorem AskD.add {Z : Int → Int → Int → Prop} {D : Nat → Int → Prop} {np ka p : Nat} {pn pm ap ab ah : Nat → Int} {hi : Int} (h : AskD Z D np pn pm ka ap ab ah) (hp : p < np) (hh : hi = 0 ∨ hi = 1) : AskD Z (fun p' hi' => D p' hi' ∨ (p' = p ∧ hi' = hi)) np pn pm (ka + 1) (up1 ap ka (pn p)) (up1 ab ka (pm p)) (up1 ah ka hi) := by
  refine ⟨fun j hj => ?_, fun p' hi' hd hn => ?_⟩
  · by_cases e : j = ka
    · subst e; rw [up1_same, up1_same, up1_same]; exact ⟨hh, p, hp, rfl, rfl⟩
    · rw [up1_ne e, up1_ne e, up1_ne e]; exact h.1 j (by omega)
  · rcases hd with hd | ⟨e1, e2⟩
    · obtain ⟨j, j1, j2⟩ := h.2 p' hi' hd hn
      exact ⟨j, by omega, by rw [up1_ne (by omega), up1_ne (by omega), up1_ne (by omega)]; exact j2⟩
    · rw [e1, e2]; exact ⟨ka, by omega, up1_same _ _ _, up1_same _ _ _, up1_same _ _ _⟩
theorem AskD.wide {Z : Int → Int → Int → Prop} {D D' : Nat → Int → Prop} {np ka : Nat} {pn pm ap ab ah : Nat → Int} (h : AskD Z D np pn pm ka ap ab ah) (hd : ∀ p hi, D' p hi → D p hi) : AskD Z D' np pn pm ka ap ab ah := ⟨h.1, fun p hi g => h.2 p hi (hd p hi g)⟩
/-- entries 0 and i change places -/
def swF (i : Nat) (f : Nat → Int) : Nat → Int := up1 (up1 f i (f 0)) 0 (f i)
theorem swF_at (i j : Nat) (f : Nat → Int) : swF i f j = f (if j = 0 then i else if j = i then 0 else j) := by
  unfold swF up1
  split
  · rfl
  · split <;> rfl
theorem AskD.swap {Z : Int → Int → Int → Prop} {D : Nat → Int → Prop} {np ka i : Nat} {pn pm ap ab ah : Nat → Int} (h : AskD Z D np pn pm ka ap ab ah) (hi : i < ka) : AskD Z D np pn pm ka (swF i ap) (swF i ab) (swF i ah) := by
  have lt : ∀ j, j < ka → (if j = 0 then i else if j = i then 0 else j) < ka := fun j hj => by
    by_cases a : j = 0
    · rw [if_pos a]; exact hi
    · rw [if_neg a]
      split <;> omega
  have inv : ∀ j, (if (if j = 0 then i else if j = i then 0 else j) = 0 then i else if (if j = 0 then i else if j = i then 0 else j) = i then 0 else (if j = 0 then i else if j = i then 0 else j)) = j := fun j => by
    by_cases a : j = 0
    · by_cases b : i = 0
      · simp [a, b]
      · simp [a, b]
    · by_cases b : j = i
      · simp [b]
      · simp [a, b]
  refine ⟨fun j hj => ?_, fun p hi' hd hn => ?_⟩
  · rw [swF_at, swF_at, swF_at]; exact h.1 _ (lt j hj)
  · obtain ⟨j, j1, j2, j3, j4⟩ := h.2 p hi' hd hn
    refine ⟨_, lt j j1, ?_⟩
    rw [swF_at, swF_at, swF_at, inv j]
    exact ⟨j2, j3, j4⟩
