/-! shifts of digits; dividing by one digit -/
theorem vB_cons {f : Nat → Int} : ∀ {n : Nat}, vB f (n + 1) = f 0 + 1073741824 * vB (ofs f 1) n
  | 0 => by simp [vB]
  | n + 1 => by
    rw [vB_top, vB_cons (n := n), vB_top (f := ofs f 1), bsucc]
    have : ofs f 1 n = f (n + 1) := by unfold ofs; rw [Nat.add_comm]
    rw [this]
    generalize (1073741824 : Int) ^ n = p
    grind
theorem ofs_ofs {f : Nat → Int} {k : Nat} : ofs (ofs f k) 1 = ofs f (k + 1) := by
  funext j
  unfold ofs
  rw [Nat.add_assoc]
theorem vB_ofs {f : Nat → Int} {k r : Nat} : vB (ofs f k) (r + 1) = f k + 1073741824 * vB (ofs f (k + 1)) r := by
  rw [vB_cons, ofs_ofs]
  rfl
theorem ofs_0 {f : Nat → Int} : ofs f 0 = f := by funext j; unfold ofs; rw [Nat.zero_add]
theorem vB_split {f : Nat → Int} {p : Nat} : ∀ {r : Nat}, vB f (p + r) = vB f p + 1073741824 ^ p * vB (ofs f p) r
  | 0 => by simp [vB]
  | r + 1 => by
    rw [← Nat.add_assoc, vB_top, vB_split (r := r), vB_top (f := ofs f p), Int.pow_add]
    have : ofs f p r = f (p + r) := rfl
    rw [this]
    generalize (1073741824 : Int) ^ p = a
    generalize (1073741824 : Int) ^ r = b
    grind
theorem bm_mod (y : Int) : Int.bmod y 4294967296 % 1073741824 = y % 1073741824 := by
  unfold Int.bmod
  simp only
  split <;> omega
theorem bm_small {y : Int} (h0 : 0 ≤ y) (h1 : y < 2147483648) : Int.bmod y 4294967296 = y := by
  unfold Int.bmod
  simp only
  split <;> omega
/-- P = 2 ^ s, R = 2 ^ (30 - s) -/
def PR (s : Nat) (P R : Int) : Prop := s ≤ 29 ∧ P = ((2 ^ s : Nat) : Int) ∧ R = ((2 ^ (30 - s) : Nat) : Int)
theorem PR.mul {s : Nat} {P R : Int} (h : PR s P R) : P * R = 1073741824 := by
  obtain ⟨h1, h2, h3⟩ := h
  rw [h2, h3, ← Int.natCast_mul, ← Nat.pow_add, show s + (30 - s) = 30 by omega]
  decide
theorem PR.pos {s : Nat} {P R : Int} (h : PR s P R) : 1 ≤ P ∧ 2 ≤ R ∧ P ≤ 536870912 := by
  have hm := h.mul
  obtain ⟨h1, h2, h3⟩ := h
  have a : 0 < 2 ^ s := Nat.pow_pos (by decide)
  have b : 2 ^ 1 ≤ 2 ^ (30 - s) := Nat.pow_le_pow_right (by decide) (by omega)
  have c : 2 ^ s ≤ 2 ^ 29 := Nat.pow_le_pow_right (by decide) h1
  have e : (2 : Nat) ^ 29 = 536870912 := by decide
  omega
theorem PR.div {s : Nat} {P R : Int} (h : PR s P R) (x : Int) : x * P = x * P % 1073741824 + 1073741824 * (x / R) := by
  have hp := h.pos
  have e1 : x * P / 1073741824 = x / R := by
    rw [← h.mul, Int.mul_comm x P]
    exact Int.mul_ediv_mul_of_pos _ _ (by omega)
  have := Int.mul_ediv_add_emod (x * P) 1073741824
  rw [e1] at this
  omega
theorem PR.mod {s : Nat} {P R : Int} (h : PR s P R) (x : Int) : x * P % 1073741824 = P * (x % R) := by
  have hp := h.pos
  rw [← h.mul, Int.mul_comm x P]
  exact Int.mul_emod_mul_of_pos _ _ (by omega)
theorem PR.modR {s : Nat} {P R : Int} (h : PR s P R) (x : Int) : x * R % 1073741824 = R * (x % P) := by
  have hp := h.pos
  rw [← h.mul, Int.mul_comm x R, Int.mul_comm P R]
  exact Int.mul_emod_mul_of_pos _ _ (by omega)
theorem PR.carry {s : Nat} {P R : Int} (h : PR s P R) {x : Int} (h0 : 0 ≤ x) (h1 : x < 1073741824) : 0 ≤ x / R ∧ x / R < P := by
  have hp := h.pos
  refine ⟨Int.ediv_nonneg h0 (by omega), (Int.ediv_lt_iff_lt_mul (by omega)).mpr (by rw [h.mul]; exact h1)⟩
theorem PR.low {s : Nat} {P R : Int} (h : PR s P R) (x : Int) : 0 ≤ x * P % 1073741824 ∧ x * P % 1073741824 ≤ 1073741824 - P ∧ x * P % 1073741824 % P = 0 := by
  have hp := h.pos
  rw [h.mod]
  have m0 := Int.emod_nonneg x (show R ≠ 0 by omega)
  have m1 := Int.emod_lt_of_pos x (show 0 < R by omega)
  have e : P * (R - 1) = 1073741824 - P := by rw [Int.mul_sub, h.mul, Int.mul_one]
  refine ⟨Int.mul_nonneg (by omega) m0, ?_, Int.mul_emod_right _ _⟩
  rw [← e]
  exact Int.mul_le_mul_of_nonneg_left (by omega) (by omega)
/-- digit k of f's number times P -/
def shd (f : Nat → Int) (P R : Int) (k : Nat) : Int := f k * P % 1073741824 + (if k = 0 then 0 else f (k - 1) / R)
theorem shd_bd {f : Nat → Int} {n s : Nat} {P R : Int} (h : PR s P R) (hf : D30 f n) {k : Nat} (hk : k < n) : 0 ≤ shd f P R k ∧ shd f P R k < 1073741824 := by
  have hl := h.low (f k)
  have hp := h.pos
  unfold shd
  by_cases c : k = 0
  · rw [if_pos c]; omega
  · rw [if_neg c]
    have := hf (k - 1) (by omega)
    have := h.carry this.1 this.2
    omega
theorem shd_val {f : Nat → Int} {s : Nat} {P R : Int} (h : PR s P R) : ∀ (k : Nat), vB (shd f P R) k + (if k = 0 then 0 else f (k - 1) / R) * 1073741824 ^ k = P * vB f k
  | 0 => by simp [vB]
  | k + 1 => by
    have ih := shd_val (f := f) h k
    rw [vB_top, vB_top, if_neg (by omega), Nat.add_sub_cancel, bsucc]
    have hd := h.div (f k)
    have e : shd f P R k = f k * P % 1073741824 + (if k = 0 then 0 else f (k - 1) / R) := rfl
    rw [e]
    generalize (if k = 0 then 0 else f (k - 1) / R) = c at *
    generalize (1073741824 : Int) ^ k = b at *
    generalize f k * P % 1073741824 = lo at *
    generalize f k / R = hi at *
    generalize vB (shd f P R) k = V at *
    generalize vB f k = U at *
    grind
/-- and back: digit k of the number by P -/
def shr (f : Nat → Int) (P R : Int) (m k : Nat) : Int := f k / P + (if k + 1 < m then f (k + 1) * R % 1073741824 else 0)
theorem shr_bd {f : Nat → Int} {m s : Nat} {P R : Int} (h : PR s P R) (hf : D30 f m) {k : Nat} (hk : k < m) : 0 ≤ f k / P ∧ f k / P < R ∧ 0 ≤ shr f P R m k ∧ shr f P R m k < 1073741824 := by
  have hp := h.pos
  have hfk := hf k hk
  have d0 := Int.ediv_nonneg hfk.1 (show 0 ≤ P by omega)
  have d1 : f k / P < R := (Int.ediv_lt_iff_lt_mul (by omega)).mpr (by rw [Int.mul_comm, h.mul]; exact hfk.2)
  refine ⟨d0, d1, ?_⟩
  unfold shr
  by_cases c : k + 1 < m
  · rw [if_pos c, h.modR]
    have m0 := Int.emod_nonneg (f (k + 1)) (show P ≠ 0 by omega)
    have m1 := Int.emod_lt_of_pos (f (k + 1)) (show 0 < P by omega)
    have e : R * (P - 1) = 1073741824 - R := by rw [Int.mul_sub, Int.mul_comm R P, h.mul, Int.mul_one]
    have a1 := Int.mul_nonneg (show 0 ≤ R by omega) m0
    have a2 := Int.mul_le_mul_of_nonneg_left (show f (k + 1) % P ≤ P - 1 by omega) (show 0 ≤ R by omega)
    omega
  · rw [if_neg c]
    have : R ≤ 1073741824 := by
      have := Int.mul_le_mul_of_nonneg_right hp.1 (show 0 ≤ R by omega)
      rw [h.mul] at this
      omega
    omega
theorem shr_val {f : Nat → Int} {m s : Nat} {P R : Int} (h : PR s P R) : ∀ (k : Nat), k ≤ m → P * vB (shr f P R m) k = vB f k - (if k = 0 then 0 else f 0 % P) + (if 0 < k ∧ k < m then f k % P * 1073741824 ^ k else 0)
  | 0, _ => by simp [vB]
  | k + 1, hk => by
    have ih := shr_val (f := f) (m := m) h k (by omega)
    have hm := h.mul
    have dk := Int.mul_ediv_add_emod (f k) P
    rw [vB_top, vB_top, Int.mul_add, ih, if_neg (show ¬ k + 1 = 0 by omega), bsucc]
    have e : shr f P R m k = f k / P + (if k + 1 < m then R * (f (k + 1) % P) else 0) := by unfold shr; rw [h.modR]
    rw [e]
    by_cases k0 : k = 0
    · subst k0
      rw [if_pos rfl, if_neg (by omega)]
      by_cases c : 0 + 1 < m
      · rw [if_pos c, if_pos (by omega)]
        simp only [vB, Int.pow_zero, Int.mul_one, Nat.zero_add] at *
        generalize f 0 / P = a at *
        generalize f 0 % P = a2 at *
        generalize f 1 % P = a3 at *
        grind
      · rw [if_neg c, if_neg (by omega)]
        simp only [vB, Int.pow_zero, Int.mul_one, Int.add_zero] at *
        omega
    · rw [if_neg k0, if_pos (by omega)]
      by_cases c : k + 1 < m
      · rw [if_pos c, if_pos (by omega)]
        generalize f k / P = a at *
        generalize f k % P = a2 at *
        generalize f (k + 1) % P = a3 at *
        generalize (1073741824 : Int) ^ k = b at *
        generalize vB f k = V at *
        generalize f 0 % P = a4 at *
        clear ih
        grind
      · rw [if_neg c, if_neg (by omega)]
        generalize f k / P = a at *
        generalize f k % P = a2 at *
        generalize (1073741824 : Int) ^ k = b at *
        generalize vB f k = V at *
        generalize f 0 % P = a4 at *
        clear ih
        grind
theorem vB_modP {f : Nat → Int} {s : Nat} {P R : Int} (h : PR s P R) : ∀ (k : Nat), (vB f (k + 1) - f 0) % P = 0
  | 0 => by simp [vB]
  | k + 1 => by
    have ih := vB_modP (f := f) h k
    have hp := h.pos
    rw [vB_top (n := k + 1), bsucc, ← h.mul]
    have e : vB f (k + 1) + f (k + 1) * ((P * R) ^ k * (P * R)) - f 0 = vB f (k + 1) - f 0 + P * (f (k + 1) * (P * R) ^ k * R) := by
      generalize (P * R) ^ k = b
      grind
    rw [e, Int.add_mul_emod_self_left]
    exact ih
section Short
variable {d : Nat} {K : Shp} {H : Mem} {M : Nat} {q : Mem → Prop}
theorem sp_X12_divideShort {n : Nat} {dv : Int} (hk : RefS K M) (hp : RefP (H M) M) (hn : H M 6 = (n : Int)) (h0 : 0 < n) (h99 : n ≤ 99) (hf : D30 (H (M + 2)) n) (hd0 : 0 < dv) (hd1 : dv < 1073741824)
    (hq : ∀ H' qn, FC M [0, 2, 4] H H' → FO [6, 7] (H M) (H' M) → H' M 6 = (if vB (H (M + 2)) n % dv = 0 then 0 else 1) → H' (M + 2) 0 = vB (H (M + 2)) n % dv → H' M 7 = ((qn : Nat) : Int) → D30 (H' (M + 4)) qn → (qn = 0 ∨ H' (M + 4) (qn - 1) ≠ 0) → vB (H' (M + 4)) qn = vB (H (M + 2)) n / dv → qn ≤ n → q H') : Cv mX12_divideShort d [(2, (M : Int)), (0, dv)] K H q := by
  refine eX12_divideShort fun _ _ => bX12_divideShort_0 ?_
  simp only [Int.toNat_natCast, Option.some.injEq, Prod.mk.injEq, true_and, and_true, exists_eq_left', hk.k0, hn]
  refine ⟨by omega, ⟨by omega, by omega⟩, ?_⟩
  have trim : ∀ (s : Nat) (rest : Int) (G : Mem), s ≤ n → FC M [0, 4] H G → FO [7] (H M) (G M) → G M 7 = (s : Int) → D30 (G (M + 4)) s → rest = vB (H (M + 2)) n % dv → vB (G (M + 4)) s = vB (H (M + 2)) n / dv → FX12_divideShort_63 d K G q (M : Int) rest := by
    intro s
    have fin : ∀ (s : Nat) (rest : Int) (G : Mem), s ≤ n → FC M [0, 4] H G → FO [7] (H M) (G M) → G M 7 = (s : Int) → D30 (G (M + 4)) s → rest = vB (H (M + 2)) n % dv → vB (G (M + 4)) s = vB (H (M + 2)) n / dv → (s = 0 ∨ G (M + 4) (s - 1) ≠ 0) → ∀ H9, H9 = upA G (M + 2) (up1 (G (M + 2)) (0 : Int).toNat rest) → ((¬ rest = 0 → ∀ H11 : Mem, H11 = upA H9 M (up1 (H9 M) 6 1) → q H11) ∧ (rest = 0 → ∀ H12 : Mem, H12 = upA H9 M (up1 (H9 M) 6 0) → q H12)) := by
      intro s rest G hs g1 g2 g3 g4 g5 g6 g7 H9 e9
      have key : ∀ x : Int, (x = if rest = 0 then 0 else 1) → ∀ H11, H11 = upA H9 M (up1 (H9 M) 6 x) → q H11 := by
        intro x hx H11 e11
        have m9 : H9 M = G M := by rw [e9, upA_ne (by omega)]
        have m11 : H11 M = up1 (G M) 6 x := by rw [e11, upA_same, m9]
        have c2 : H11 (M + 2) = up1 (G (M + 2)) 0 rest := by rw [e11, upA_ne (by omega), e9, upA_same]; rfl
        have c4 : H11 (M + 4) = G (M + 4) := by rw [e11, upA_ne (by omega), e9, upA_ne (by omega)]
        refine hq H11 s ?_ ?_ ?_ ?_ ?_ (by rw [c4]; exact g4) (by rw [c4]; exact g7) (by rw [c4]; exact g6) hs
        · intro y hy
          have z0 := hy 0 rfl
          rw [e11, upA_ne (by omega), e9, upA_ne (hy 2 rfl), g1 y (fun j hj => hy j (by simp at hj ⊢; omega))]
        · rw [m11]; exact (g2.wide (l' := [6, 7]) rfl).same (FO.up rfl)
        · rw [m11, up1_same, hx, g5]
        · rw [c2, up1_same, g5]
        · rw [m11, up1_ne (by decide)]; exact g3
      exact ⟨fun hne H11 e11 => key 1 (by rw [if_neg hne]) H11 e11, fun he H12 e12 => key 0 (by rw [if_pos he]) H12 e12⟩
    have rb : ∀ rest : Int, rest = vB (H (M + 2)) n % dv → inI rest := by
      intro rest hr
      have a := Int.emod_nonneg (vB (H (M + 2)) n) (show dv ≠ 0 by omega)
      have b := Int.emod_lt_of_pos (vB (H (M + 2)) n) hd0
      exact ⟨by omega, by omega⟩
    induction s with
    | zero =>
      intro rest G hs g1 g2 g3 g4 g5 g6
      refine bX12_divideShort_63 ?_
      simp only [Int.toNat_natCast, Option.some.injEq, Prod.mk.injEq, true_and, and_true, exists_eq_left', hk.k0, g3]
      refine ⟨by omega, fun _ => ?_, fun z => absurd (by omega) z⟩
      simp only [Int.toNat_natCast, Option.some.injEq, Prod.mk.injEq, true_and, and_true, exists_eq_left', g2 3 rfl, hp.p3, hk.k2]
      exact ⟨rb rest g5, by omega, by omega, fun H9 e9 => fin 0 rest G hs g1 g2 g3 g4 g5 g6 (Or.inl rfl) H9 e9⟩
    | succ s ih =>
      intro rest G hs g1 g2 g3 g4 g5 g6
      have i1 : (((s + 1 : Nat) : Int) - 1).toNat = s := by omega
      refine bX12_divideShort_63 ?_
      simp only [Int.toNat_natCast, Option.some.injEq, Prod.mk.injEq, true_and, and_true, exists_eq_left', hk.k0, g3, g2 5 rfl, hp.p5, hk.k4, i1]
      refine ⟨by omega, fun z => absurd z (by omega), fun _ => ⟨⟨by omega, by omega⟩, by omega, by omega, by omega, fun hne => ?_, fun heq H11 e11 => ?_⟩⟩
      · simp only [Int.toNat_natCast, Option.some.injEq, Prod.mk.injEq, true_and, and_true, exists_eq_left', g2 3 rfl, hp.p3, hk.k2]
        exact ⟨rb rest g5, by omega, by omega, fun H9 e9 => fin (s + 1) rest G hs g1 g2 g3 g4 g5 g6 (Or.inr hne) H9 e9⟩
      · have m11 : H11 M = up1 (G M) 7 (((s + 1 : Nat) : Int) - 1) := by rw [e11, upA_same]
        have c4 : H11 (M + 4) = G (M + 4) := by rw [e11, upA_ne (by omega)]
        refine ih rest H11 (by omega) (g1.same (by rw [e11]; exact FC.up0 rfl)) (by rw [m11]; exact g2.same (FO.up rfl)) (by rw [m11, up1_same]; omega) (by rw [c4]; exact g4.less (Nat.le_succ s)) g5 ?_
        rw [c4, ← g6, vB_top, heq]
        omega
  have loop : ∀ (k : Nat) (rest : Int) (G : Mem), k ≤ n → FC M [4] H G → 0 ≤ rest → rest < dv → (∀ j, k ≤ j → j < n → 0 ≤ G (M + 4) j ∧ G (M + 4) j < 1073741824) → vB (ofs (H (M + 2)) k) (n - k) = vB (ofs (G (M + 4)) k) (n - k) * dv + rest → FX12_divideShort_10 d K G q (M : Int) dv rest ((k : Int) - 1) := by
    intro k
    induction k with
    | zero =>
      intro rest G hk0 g1 r0 r1 g2 g3
      have gM := g1.self rfl
      refine bX12_divideShort_10 ⟨fun _ => ?_, fun z => absurd (by omega) z⟩
      simp only [Int.toNat_natCast, Option.some.injEq, Prod.mk.injEq, true_and, and_true, exists_eq_left', hk.k0, gM, hn]
      refine ⟨by omega, fun H4 e4 => ?_⟩
      rw [ofs_0, ofs_0, Nat.sub_zero] at g3
      have m4 : H4 M = up1 (H M) 7 (n : Int) := by rw [e4, upA_same]
      have c4 : H4 (M + 4) = G (M + 4) := by rw [e4, upA_ne (by omega)]
      refine trim n rest H4 (Nat.le_refl n) ((g1.wide (l' := [0, 4]) rfl).same (by rw [e4]; exact FC.up0 rfl)) (by rw [m4]; exact FO.up rfl) (by rw [m4, up1_same]) (by rw [c4]; exact fun j hj => g2 j (by omega) hj) ?_ ?_
      · rw [g3, Int.add_comm, Int.mul_comm, Int.add_mul_emod_self_left, Int.emod_eq_of_lt r0 r1]
      · rw [c4, g3, Int.add_comm, Int.add_mul_ediv_right _ _ (by omega), Int.ediv_eq_zero_of_lt r0 r1]; omega
    | succ k ih =>
      intro rest G hk0 g1 r0 r1 g2 g3
      have gM := g1.self rfl
      have g2' := g1.at 2 rfl
      have hfk := hf k (by omega)
      have p30 : ((2 ^ 30 : Nat) : Int) = 1073741824 := by decide
      have hN : 0 ≤ rest * 1073741824 + H (M + 2) k := by omega
      have hm0 := Int.emod_nonneg (rest * 1073741824 + H (M + 2) k) (show dv ≠ 0 by omega)
      have hm1 := Int.emod_lt_of_pos (rest * 1073741824 + H (M + 2) k) hd0
      have hq0 := Int.ediv_nonneg hN (Int.le_of_lt hd0)
      have hq1 : (rest * 1073741824 + H (M + 2) k) / dv < 1073741824 := (Int.ediv_lt_iff_lt_mul hd0).mpr (by omega)
      have hdm := Int.mul_ediv_add_emod (rest * 1073741824 + H (M + 2) k) dv
      rw [show ((k + 1 : Nat) : Int) - 1 = (k : Int) by omega]
      refine bX12_divideShort_10 ⟨fun z => absurd z (by omega), fun _ => ?_⟩
      simp only [Int.toNat_natCast, Option.some.injEq, Prod.mk.injEq, true_and, and_true, exists_eq_left', hk.k0, gM, hp.p3, hk.k2, g2', hp.p5, hk.k4]
      rw [tdiv_pos hN, tmod_pos hN]
      refine ⟨⟨by omega, by omega⟩, by omega, by omega, by omega, by omega, ⟨30, by omega, mod_pow30 _, by omega, by rw [p30]; omega, ⟨by omega, by omega⟩⟩, by omega, ⟨by omega, by omega⟩, ⟨by omega, by omega⟩, by omega, by omega, fun H' e' => ⟨⟨by omega, by omega⟩, ⟨by omega, by omega⟩, ?_⟩⟩
      have c4 : H' (M + 4) = up1 (G (M + 4)) k ((rest * 1073741824 + H (M + 2) k) / dv) := by rw [e', upA_same]
      refine ih _ H' (by omega) (g1.same (by rw [e']; exact FC.up rfl)) hm0 hm1 (fun j h1 h2 => ?_) ?_
      · rw [c4]
        by_cases ej : j = k
        · subst ej; rw [up1_same]; exact ⟨hq0, hq1⟩
        · rw [up1_ne ej]; exact g2 j (by omega) h2
      · obtain ⟨r, hr⟩ : ∃ r, n - k = r + 1 := ⟨n - k - 1, by omega⟩
        rw [show n - (k + 1) = r by omega] at g3
        rw [hr, vB_ofs, vB_ofs, g3, c4, up1_same]
        have eo : vB (ofs (up1 (G (M + 4)) k ((rest * 1073741824 + H (M + 2) k) / dv)) (k + 1)) r = vB (ofs (G (M + 4)) (k + 1)) r := vB_congr (fun j hj => by unfold ofs; rw [up1_ne (by omega)])
        rw [eo]
        generalize vB (ofs (G (M + 4)) (k + 1)) r = Q
        generalize (rest * 1073741824 + H (M + 2) k) / dv = z1 at *
        generalize (rest * 1073741824 + H (M + 2) k) % dv = z2 at *
        clear ih
        grind
  exact loop n 0 H (Nat.le_refl n) FC.rf (by omega) hd0 (fun j h1 h2 => absurd h2 (by omega)) (by rw [Nat.sub_self]; simp [vB])
end Short
