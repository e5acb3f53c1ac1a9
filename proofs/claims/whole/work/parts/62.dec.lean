/-! numbers in tens: the reference's tellsNumber -/
def decR : Nat → List Int
  | 0 => []
  | v + 1 => (48 + ((v + 1) % 10 : Nat) : Int) :: decR ((v + 1) / 10)
  decreasing_by omega
theorem decR_0 : decR 0 = [] := by unfold decR; rfl
theorem decR_pos {v : Nat} (h : 0 < v) : decR v = (48 + (v % 10 : Nat) : Int) :: decR (v / 10) := by
  obtain ⟨u, rfl⟩ : ∃ u, v = u + 1 := ⟨v - 1, by omega⟩
  rw [decR]
def decL (v : Nat) : List Int := if v = 0 then [48] else (decR v).reverse
def numL (v : Int) : List Int := (if v < 0 then [45] else []) ++ decL v.natAbs
/-- the list l lies in f from p on -/
def At (f : Nat → Int) (p : Nat) (l : List Int) : Prop := ∀ i, i < l.length → f (p + i) = l.getD i 0
theorem At.snoc {f : Nat → Int} {p : Nat} {l : List Int} {x : Int} (h : At f p l) : At (up1 f (p + l.length) x) p (l ++ [x]) := by
  intro i hi
  simp only [List.length_append, List.length_cons, List.length_nil] at hi
  by_cases e : i = l.length
  · subst e; rw [up1_same]; simp
  · rw [up1_ne (by omega), h i (by omega)]
    simp only [List.getD_eq_getElem?_getD]
    rw [List.getElem?_append_left (by omega)]
theorem At.nil {f : Nat → Int} {p : Nat} : At f p [] := fun i hi => absurd hi (by simp)
theorem At.congr {f g : Nat → Int} {p : Nat} {l : List Int} (h : At f p l) (e : ∀ i, i < l.length → g (p + i) = f (p + i)) : At g p l := fun i hi => (e i hi).trans (h i hi)
theorem At.app {f : Nat → Int} {p : Nat} {l l' : List Int} (h : At f p l) (h' : At f (p + l.length) l') : At f p (l ++ l') := by
  intro i hi
  simp only [List.length_append] at hi
  simp only [List.getD_eq_getElem?_getD]
  by_cases c : i < l.length
  · rw [h i c, List.getElem?_append_left c, List.getD_eq_getElem?_getD]
  · rw [List.getElem?_append_right (by omega)]
    have := h' (i - l.length) (by omega)
    rw [show p + l.length + (i - l.length) = p + i by omega, List.getD_eq_getElem?_getD] at this
    exact this
section Tell
variable {d : Nat} {K : Shp} {H : Mem} {M : Nat} {q : Mem → Prop}
theorem sp_X12_tells0 {p : Nat} {x : Int} (hk : RefS K M) (hp : RefP (H M) M) (h9 : H M 9 = (p : Int)) (hp2 : p < 200) (hq : ∀ H', FC M [0, 5] H H' → FO [9] (H M) (H' M) → H' M 9 = ((p + 1 : Nat) : Int) → H' (M + 5) = up1 (H (M + 5)) p x → q H') : Cv mX12_tells0 d [(2, (M : Int)), (0, x)] K H q := by
  refine eX12_tells0 fun _ _ => bX12_tells0_0 ?_
  simp only [Int.toNat_natCast, Option.some.injEq, Prod.mk.injEq, true_and, and_true, exists_eq_left', hk.k0, hp.p8, hk.k5, h9]
  refine ⟨by omega, by omega, by omega, by omega, fun H8 e8 => ?_⟩
  have m8 : H8 M = H M := by rw [e8, upA_ne (by omega)]
  rw [m8, h9]
  refine ⟨⟨by omega, by omega⟩, fun H10 e10 => hq H10 ?_ ?_ ?_ ?_⟩
  · intro c hc
    have z0 := hc 0 rfl
    rw [e10, upA_ne (by omega), e8, upA_ne (hc 5 rfl)]
  · rw [e10, upA_same]; exact FO.up rfl
  · rw [e10, upA_same, up1_same]; rfl
  · rw [e10, upA_ne (by omega), e8, upA_same]
theorem rev_get {l : List Int} {i : Nat} (h : i < l.length) : l.reverse.getD i 0 = l.getD (l.length - 1 - i) 0 := by
  simp only [List.getD_eq_getElem?_getD]
  rw [List.getElem?_reverse h]
/-- the reversal in place -/
theorem tell_rev {p L : Nat} {l : List Int} (hk : RefS K M) (hp : RefP (H M) M) (hl : l.length = L) (hpL : p + L ≤ 200) (hA : At (H (M + 5)) p l) (hq : ∀ H', FC M [5] H H' → (∀ j, j < p → H' (M + 5) j = H (M + 5) j) → At (H' (M + 5)) p l.reverse → q H') :
    ∀ (r c : Nat), L ≤ 2 * c + r → 2 * c ≤ L + 1 → ∀ G : Mem, FC M [5] H G → (∀ j, j < p → G (M + 5) j = H (M + 5) j) → (∀ i, i < L → G (M + 5) (p + i) = if i < c ∨ L - c ≤ i then H (M + 5) (p + (L - 1 - i)) else H (M + 5) (p + i)) → FX12_tellsNumber_195 d K G q (M : Int) ((p + c : Nat) : Int) ((p : Int) + (L : Int) - 1 - (c : Int)) := by
  have fin : ∀ (c : Nat) (G : Mem), FC M [5] H G → (∀ j, j < p → G (M + 5) j = H (M + 5) j) → (∀ i, i < L → G (M + 5) (p + i) = if i < c ∨ L - c ≤ i then H (M + 5) (p + (L - 1 - i)) else H (M + 5) (p + i)) → L ≤ 2 * c + 1 → q G := by
    intro c G g1 g2 g3 hc
    refine hq G g1 g2 ?_
    intro i hi
    rw [List.length_reverse, hl] at hi
    rw [rev_get (by omega), hl, g3 i hi, ← hA (L - 1 - i) (by omega)]
    by_cases z : i < c ∨ L - c ≤ i
    · rw [if_pos z]
    · rw [if_neg z, show L - 1 - i = i by omega]
  intro r
  induction r with
  | zero =>
    intro c h1 h2 G g1 g2 g3
    exact bX12_tellsNumber_195 ⟨fun _ => fin c G g1 g2 g3 (by omega), fun z => absurd z (by omega)⟩
  | succ r ih =>
    intro c h1 h2 G g1 g2 g3
    refine bX12_tellsNumber_195 ⟨fun z => fin c G g1 g2 g3 (by omega), fun z => ?_⟩
    have gM := g1.self rfl
    have i4 : ((p : Int) + (L : Int) - 1 - (c : Int)).toNat = p + (L - 1 - c) := by omega
    simp only [Int.toNat_natCast, Option.some.injEq, Prod.mk.injEq, true_and, and_true, exists_eq_left', hk.k0, gM, hp.p8, hk.k5, i4]
    refine ⟨by omega, by omega, by omega, by omega, by omega, by omega, fun H1 e1 => ?_⟩
    have m1 : H1 M = H M := by rw [e1, upA_ne (by omega), gM]
    simp only [Int.toNat_natCast, Option.some.injEq, Prod.mk.injEq, true_and, and_true, exists_eq_left', m1, hp.p8, hk.k5, i4]
    refine ⟨by omega, by omega, fun H2 e2 => ⟨⟨by omega, by omega⟩, ⟨by omega, by omega⟩, ?_⟩⟩
    rw [show (p : Int) + (L : Int) - 1 - (c : Int) + (-1) = (p : Int) + (L : Int) - 1 - ((c + 1 : Nat) : Int) by omega]
    have c5 : H2 (M + 5) = up1 (up1 (G (M + 5)) (p + c) (G (M + 5) (p + (L - 1 - c)))) (p + (L - 1 - c)) (G (M + 5) (p + c)) := by rw [e2, upA_same, e1, upA_same]
    refine ih (c + 1) (by omega) (by omega) H2 ?_ ?_ ?_
    · intro x hx
      rw [e2, upA_ne (hx 5 rfl), e1, upA_ne (hx 5 rfl), g1 x hx]
    · intro j hj; rw [c5, up1_ne (by omega), up1_ne (by omega), g2 j hj]
    · intro i hi
      rw [c5]
      by_cases x1 : i = L - 1 - c
      · rw [x1, up1_same, if_pos (by omega), g3 c (by omega), if_neg (by omega)]
        congr 2
        omega
      · rw [up1_ne (by omega)]
        by_cases x2 : i = c
        · rw [x2, up1_same, if_pos (by omega), g3 (L - 1 - c) (by omega), if_neg (by omega)]
        · rw [up1_ne (by omega), g3 i hi]
          by_cases x3 : i < c ∨ L - c ≤ i
          · rw [if_pos x3, if_pos (by omega)]
          · rw [if_neg x3, if_neg (by omega)]
theorem decR_app {v u : Nat} {l : List Int} (h : decR v = l ++ decR u) (hu : 0 < u) : decR v = (l ++ [(48 + (u % 10 : Nat) : Int)]) ++ decR (u / 10) := by
  rw [h, decR_pos hu]
  simp
set_option maxHeartbeats 1000000 in
theorem tell_loop {p V : Nat} (hk : RefS K M) (hp : RefP (H M) M) (hpL : p + (decR V).length ≤ 200) (hq : ∀ H', FC M [0, 2, 5] H H' → FO [6, 9] (H M) (H' M) → H' M 9 = ((p + (decR V).length : Nat) : Int) → (∀ j, j < p → H' (M + 5) j = H (M + 5) j) → At (H' (M + 5)) p (decR V).reverse → q H') :
    ∀ (u : Nat) (G : Mem) (ln : Nat) (l : List Int), ln ≤ 99 → decR V = l ++ decR u → FC M [0, 2, 5] H G → FO [6, 9] (H M) (G M) → G M 6 = (ln : Int) → G M 9 = ((p + l.length : Nat) : Int) → D30 (G (M + 2)) ln → (ln = 0 ∨ G (M + 2) (ln - 1) ≠ 0) → vB (G (M + 2)) ln = (u : Int) → (∀ j, j < p → G (M + 5) j = H (M + 5) j) → At (G (M + 5)) p l → FX12_tellsNumber_75 d K G q (M : Int) (p : Int) := by
  intro u
  induction u using Nat.strongRecOn with
  | _ u ih =>
    intro G ln l h99 hl g1 g2 g3 g4 g5 g6 g7 g8 g9
    have hpG : RefP (G M) M := hp.cong _ rfl g2
    have hlen : (decR V).length = l.length + (decR u).length := by rw [hl, List.length_append]
    refine bX12_tellsNumber_75 ?_
    simp only [Int.toNat_natCast, Option.some.injEq, Prod.mk.injEq, true_and, and_true, exists_eq_left', hk.k0, g3, g4]
    refine ⟨by omega, fun z => ⟨⟨by omega, by omega⟩, ?_⟩, fun z => ⟨⟨by omega, by omega⟩, ?_⟩⟩
    · have eln : ln = 0 := by omega
      subst eln
      have eu : u = 0 := by simp only [vB] at g7; omega
      subst eu
      rw [decR_0, List.append_nil] at hl
      have := tell_rev (d := d) (H := G) (q := q) (p := p) (L := l.length) (l := l) hk hpG rfl (by omega) g9 (fun H' c1 c2 c3 => hq H' (g1.tr c1 rfl rfl) (by rw [c1.self rfl]; exact g2) (by rw [c1.self rfl, g4, hl]) (fun j hj => (c2 j hj).trans (g8 j hj)) (by rw [hl]; exact c3)) l.length 0 (by omega) (by omega) G FC.rf (fun _ _ => rfl) (fun i hi => by rw [if_neg (by omega)])
      rw [show ((p + l.length : Nat) : Int) - 1 = (p : Int) + (l.length : Int) - 1 - ((0 : Nat) : Int) by omega]
      exact this
    · have hu : 0 < u := by
        rcases g6 with h | h
        · omega
        · obtain ⟨k, rfl⟩ : ∃ k, ln = k + 1 := ⟨ln - 1, by omega⟩
          have := vB_ge g5 h
          have := bpos k
          omega
      have trim : ∀ (s : Nat) (G' : Mem), s ≤ ln → FC M [0, 2] G G' → FO [6] (G M) (G' M) → G' M 6 = (s : Int) → D30 (G' (M + 2)) s → vB (G' (M + 2)) s = ((u / 10 : Nat) : Int) → FX12_tellsNumber_139 d K G' q (M : Int) (p : Int) ((u % 10 : Nat) : Int) := by
        intro s
        have put : ∀ (s : Nat) (G' : Mem), s ≤ ln → FC M [0, 2] G G' → FO [6] (G M) (G' M) → G' M 6 = (s : Int) → D30 (G' (M + 2)) s → vB (G' (M + 2)) s = ((u / 10 : Nat) : Int) → (s = 0 ∨ G' (M + 2) (s - 1) ≠ 0) → Cv mX12_tells0 d [(2, (M : Int)), (0, 48 + ((u % 10 : Nat) : Int))] K G' (fun H6 => FX12_tellsNumber_75 d K H6 q (M : Int) (p : Int)) := by
          intro s G' hs a1 a2 a3 a4 a5 a6
          have hu2 := decR_pos hu
          have hl1 : (decR u).length = (decR (u / 10)).length + 1 := by rw [hu2]; rfl
          refine sp_X12_tells0 (p := p + l.length) hk (hpG.cong _ rfl a2) (by rw [a2 9 rfl]; exact g4) (by omega) ?_
          intro H' b1 b2 b3 b4
          have e2 : H' (M + 2) = G' (M + 2) := b1.at 2 rfl
          have e5 : G' (M + 5) = G (M + 5) := a1.at 5 rfl
          refine ih (u / 10) (by omega) H' s (l ++ [(48 + (u % 10 : Nat) : Int)]) (by omega) (decR_app hl hu) ((g1.same (a1.wide rfl)).same (b1.wide rfl)) ((g2.same (a2.wide rfl)).same (b2.wide rfl)) (by rw [b2 6 rfl]; exact a3) (by rw [b3]; simp; omega) (by rw [e2]; exact a4) (by rw [e2]; exact a6) (by rw [e2]; exact a5) (fun j hj => by rw [b4, up1_ne (by omega), e5, g8 j hj]) (by rw [b4, e5]; exact g9.snoc)
        induction s with
        | zero =>
          intro G' hs a1 a2 a3 a4 a5
          refine bX12_tellsNumber_139 ?_
          simp only [Int.toNat_natCast, Option.some.injEq, Prod.mk.injEq, true_and, and_true, exists_eq_left', hk.k0, a3]
          exact ⟨by omega, fun _ => ⟨⟨by omega, by omega⟩, ⟨by omega, by omega⟩, put 0 G' hs a1 a2 a3 a4 a5 (Or.inl rfl)⟩, fun z => absurd (by omega) z⟩
        | succ s ihs =>
          intro G' hs a1 a2 a3 a4 a5
          have i1 : (((s + 1 : Nat) : Int) - 1).toNat = s := by omega
          refine bX12_tellsNumber_139 ?_
          simp only [Int.toNat_natCast, Option.some.injEq, Prod.mk.injEq, true_and, and_true, exists_eq_left', hk.k0, a3, a2 3 rfl, hpG.p3, hk.k2, i1]
          refine ⟨by omega, fun z => absurd z (by omega), fun _ => ⟨⟨by omega, by omega⟩, by omega, by omega, by omega, fun hne => ⟨⟨by omega, by omega⟩, ⟨by omega, by omega⟩, put (s + 1) G' hs a1 a2 a3 a4 a5 (Or.inr hne)⟩, fun heq H11 e11 => ?_⟩⟩
          have m11 : H11 M = up1 (G' M) 6 (((s + 1 : Nat) : Int) - 1) := by rw [e11, upA_same]
          have c2 : H11 (M + 2) = G' (M + 2) := by rw [e11, upA_ne (by omega)]
          refine ihs H11 (by omega) (a1.same (by rw [e11]; exact FC.up0 rfl)) (by rw [m11]; exact a2.same (FO.up rfl)) (by rw [m11, up1_same]; omega) (by rw [c2]; exact a4.less (Nat.le_succ s)) ?_
          rw [c2, ← a5, vB_top, heq]
          omega
      have dl : ∀ (k : Nat) (rest : Int) (G' : Mem), k ≤ ln → FC M [2] G G' → 0 ≤ rest → rest < 10 → (∀ j, j < k → G' (M + 2) j = G (M + 2) j) → (∀ j, k ≤ j → j < ln → 0 ≤ G' (M + 2) j ∧ G' (M + 2) j < 1073741824) → vB (ofs (G (M + 2)) k) (ln - k) = vB (ofs (G' (M + 2)) k) (ln - k) * 10 + rest → FX12_tellsNumber_92 d K G' q (M : Int) (p : Int) rest ((k : Int) - 1) := by
        intro k
        induction k with
        | zero =>
          intro rest G' hk0 a1 r0 r1 a2 a3 a4
          refine bX12_tellsNumber_92 ⟨fun _ => ?_, fun z => absurd (by omega) z⟩
          rw [ofs_0, ofs_0, Nat.sub_zero, g7] at a4
          have er : rest = ((u % 10 : Nat) : Int) := by omega
          rw [er]
          have aM := a1.self rfl
          refine trim ln G' (Nat.le_refl ln) (a1.wide rfl) (by rw [aM]; exact FO.rf) (by rw [aM]; exact g3) (fun j hj => a3 j (by omega) hj) (by omega)
        | succ k ihk =>
          intro rest G' hk0 a1 r0 r1 a2 a3 a4
          have aM := a1.self rfl
          have hfk := g5 k (by omega)
          have ek := a2 k (by omega)
          have p30 : ((2 ^ 30 : Nat) : Int) = 1073741824 := by decide
          have hN : 0 ≤ rest * 1073741824 + G (M + 2) k := by omega
          rw [show ((k + 1 : Nat) : Int) - 1 = (k : Int) by omega]
          refine bX12_tellsNumber_92 ⟨fun z => absurd z (by omega), fun _ => ?_⟩
          simp only [Int.toNat_natCast, Option.some.injEq, Prod.mk.injEq, true_and, and_true, exists_eq_left', hk.k0, aM, hpG.p3, hk.k2, ek]
          rw [tdiv_pos hN, tmod_pos hN]
          refine ⟨⟨by omega, by omega⟩, by omega, by omega, by omega, by omega, ⟨30, by omega, mod_pow30 _, by omega, by rw [p30]; omega, ⟨by omega, by omega⟩⟩, ⟨by omega, by omega⟩, ⟨by omega, by omega⟩, fun H' e' => ⟨⟨by omega, by omega⟩, ⟨by omega, by omega⟩, ?_⟩⟩
          rw [show (k : Int) + (-1) = (k : Int) - 1 by omega]
          have c2 : H' (M + 2) = up1 (G' (M + 2)) k ((rest * 1073741824 + G (M + 2) k) / 10) := by rw [e', upA_same]
          refine ihk _ H' (by omega) (a1.same (by rw [e']; exact FC.up rfl)) (by omega) (by omega) (fun j hj => by rw [c2, up1_ne (by omega)]; exact a2 j (by omega)) (fun j h1 h2 => ?_) ?_
          · rw [c2]
            by_cases ej : j = k
            · subst ej; rw [up1_same]; omega
            · rw [up1_ne ej]; exact a3 j (by omega) h2
          · obtain ⟨r, hr⟩ : ∃ r, ln - k = r + 1 := ⟨ln - k - 1, by omega⟩
            rw [show ln - (k + 1) = r by omega] at a4
            rw [hr, vB_ofs, vB_ofs, a4, c2, up1_same]
            have eo : vB (ofs (up1 (G' (M + 2)) k ((rest * 1073741824 + G (M + 2) k) / 10)) (k + 1)) r = vB (ofs (G' (M + 2)) (k + 1)) r := vB_congr (fun j hj => by unfold ofs; rw [up1_ne (by omega)])
            rw [eo]
            omega
      exact dl ln 0 G (Nat.le_refl ln) FC.rf (by omega) (by omega) (fun _ _ => rfl) (fun j h1 h2 => absurd h2 (by omega)) (by rw [Nat.sub_self]; simp [vB])
theorem numL_len (v : Int) : (numL v).length = (if v < 0 then 1 else 0) + (decL v.natAbs).length := by
  unfold numL
  rw [List.length_append]
  split <;> rfl
theorem sp_X12_tellsNumber {a n p : Nat} {v : Int} (hk : RefS K M) (hp : RefP (H M) M) (ha : a + n < 20000) (hn : n ≤ 98) (hv : BN (H (M + 1)) a n v) (h9 : H M 9 = (p : Int)) (hpL : p + (numL v).length ≤ 200)
    (hq : ∀ H', FC M [0, 2, 5] H H' → FO [6, 9] (H M) (H' M) → H' M 9 = ((p + (numL v).length : Nat) : Int) → (∀ j, j < p → H' (M + 5) j = H (M + 5) j) → At (H' (M + 5)) p (numL v) → q H') : Cv mX12_tellsNumber (d + 1) [(2, (M : Int)), (0, (a : Int))] K H q := by
  rw [numL_len] at hpL
  -- behind the sign (and the 0)
  have rest : ∀ (G : Mem) (pre : List Int), FC M [0, 5] H G → FO [9] (H M) (G M) → G M 9 = ((p + pre.length : Nat) : Int) → (∀ j, j < p → G (M + 5) j = H (M + 5) j) → At (G (M + 5)) p pre → numL v = pre ++ (decR v.natAbs).reverse → FX12_tellsNumber_35 d K G q (M : Int) (a : Int) ((p + pre.length : Nat) : Int) 0 := by
    intro G pre g1 g2 g3 g4 g5 g6
    have hpG : RefP (G M) M := hp.cong _ rfl g2
    have g1m := g1.at 1 rfl
    have hlen : (numL v).length = pre.length + (decR v.natAbs).length := by rw [g6]; simp
    rw [numL_len] at hlen
    have loop : ∀ (r k : Nat), k + r = n → ∀ G' : Mem, FC M [2] G G' → (∀ j, j < k → G' (M + 2) j = dgs (H (M + 1)) a j) → FX12_tellsNumber_35 d K G' q (M : Int) (a : Int) ((p + pre.length : Nat) : Int) (k : Int) := by
      intro r
      induction r with
      | zero =>
        intro k hkr G' a1 a2
        have ek : k = n := by omega
        subst ek
        have aM := a1.self rfl
        have hpG' : RefP (G' M) M := by rw [aM]; exact hpG
        have bv : BN (G' (M + 1)) a k v := by rw [a1.at 1 rfl, g1m]; exact hv
        refine bX12_tellsNumber_35 ?_
        simp only [Int.toNat_natCast, Option.some.injEq, Prod.mk.injEq, true_and, and_true, exists_eq_left', hk.k0]
        refine ⟨by omega, sp_X12_places hk hpG' ha bv ⟨fun _ => sp_X12_places hk hpG' ha bv ?_, fun z => absurd z (by omega)⟩⟩
        intro H8 e8
        have m8 : H8 M = up1 (G M) 6 (k : Int) := by rw [e8, upA_same, aM]
        have o8 : ∀ j, 0 < j → H8 (M + j) = G' (M + j) := fun j hj => by rw [e8, upA_ne (by omega)]
        have c5 : H8 (M + 5) = G (M + 5) := by rw [o8 5 (by omega), a1.at 5 rfl]
        have ed : ∀ j, j < k → H8 (M + 2) j = dgs (H (M + 1)) a j := fun j hj => by rw [o8 2 (by omega)]; exact a2 j hj
        have f8 : FC M [0, 2, 5] H H8 := by
          intro c hc
          have z0 := hc 0 rfl
          rw [e8, upA_ne (by omega), a1 c (fun j hj => hc j (by simp at hj ⊢; omega)), g1 c (fun j hj => hc j (by simp at hj ⊢; omega))]
        have p8 : FO [6, 9] (H M) (H8 M) := by rw [m8]; exact (g2.wide (l' := [6, 9]) rfl).same (FO.up rfl)
        refine tell_loop (H := H8) (p := p + pre.length) (V := v.natAbs) hk (hp.cong _ rfl p8) (by omega) ?_ v.natAbs H8 k [] (by omega) rfl FC.rf FO.rf (by rw [m8, up1_same]) (by rw [m8, up1_ne (by decide)]; simp; exact g3) (fun j hj => by rw [ed j hj]; exact hv.1 j hj) ?_ (by rw [vB_congr ed]; exact hv.2.2.1) (fun _ _ => rfl) At.nil
        · intro H' c1 c2 c3 c4 c6
          have ll : (numL v).length = pre.length + (decR v.natAbs).length := by rw [g6]; simp
          refine hq H' (f8.same c1) (p8.same c2) (by rw [c3, ll]; omega) (fun j hj => by rw [c4 j (by omega), c5, g4 j hj]) ?_
          rw [g6]
          refine At.app (g5.congr (fun i hi => ?_)) c6
          rw [c4 _ (by omega), c5]
        · rcases hv.2.1 with z | z
          · exact Or.inl z
          · by_cases k0 : k = 0
            · exact Or.inl k0
            · right; rw [ed _ (by omega)]; unfold dgs; rw [show a + 1 + (k - 1) = a + k by omega]; exact z
      | succ r ih =>
        intro k hkr G' a1 a2
        have aM := a1.self rfl
        have hpG' : RefP (G' M) M := by rw [aM]; exact hpG
        have bv : BN (G' (M + 1)) a n v := by rw [a1.at 1 rfl, g1m]; exact hv
        have ia : ((a : Int) + 1 + (k : Int)).toNat = a + 1 + k := by omega
        refine bX12_tellsNumber_35 ?_
        simp only [Int.toNat_natCast, Option.some.injEq, Prod.mk.injEq, true_and, and_true, exists_eq_left', hk.k0]
        refine ⟨by omega, sp_X12_places hk hpG' ha bv ⟨fun z => absurd (by omega) z, fun _ => ?_⟩⟩
        simp only [Int.toNat_natCast, Option.some.injEq, Prod.mk.injEq, true_and, and_true, exists_eq_left', hpG'.p1, hk.k1, hpG'.p3, hk.k2, ia, a1.at 1 rfl, g1m]
        refine ⟨⟨by omega, by omega⟩, ⟨by omega, by omega⟩, by omega, by omega, by omega, by omega, by omega, by omega, fun H' e' => ⟨⟨by omega, by omega⟩, ih (k + 1) (by omega) H' (a1.same (by rw [e']; exact FC.up rfl)) (fun j hj => ?_)⟩⟩
        rw [e', upA_same]
        by_cases ej : j = k
        · subst ej; rw [up1_same]; rfl
        · rw [up1_ne ej]; exact a2 j (by omega)
    exact loop n 0 (by omega) G FC.rf (fun j hj => absurd hj (by omega))
  have hdl : v ≠ 0 → decL v.natAbs = (decR v.natAbs).reverse := fun h => by unfold decL; rw [if_neg (by omega)]
  refine eX12_tellsNumber fun _ _ => bX12_tellsNumber_0 ?_
  simp only [Int.toNat_natCast, Option.some.injEq, Prod.mk.injEq, true_and, and_true, exists_eq_left', hk.k0]
  refine ⟨by omega, sp_X12_sign hk hp (by omega) hv ⟨fun g1 => sp_X12_sign hk hp (by omega) hv ⟨fun g2 => ?_, fun g2 => ?_⟩, fun g1 => ?_⟩⟩
  · rw [h9]
    have hv0 : 0 < v := by rcases sign_cases v with s | s | s <;> omega
    have := rest H [] FC.rf FO.rf (by rw [h9]; rfl) (fun _ _ => rfl) At.nil (by unfold numL; rw [if_neg (by omega), hdl (by omega)])
    exact this
  · have hv0 : v = 0 := by rcases sign_cases v with s | s | s <;> omega
    have hl1 : (decL v.natAbs).length = 1 := by rw [hv0]; rfl
    refine sp_X12_tells0 (p := p) hk hp h9 (by omega) ?_
    intro H' b1 b2 b3 b4
    rw [b3]
    have := rest H' [48] b1 b2 (by rw [b3]; rfl) (fun j hj => by rw [b4, up1_ne (by omega)]) (by rw [b4]; exact At.snoc (l := []) At.nil) (by unfold numL decL; rw [if_neg (by omega), hv0]; simp [decR_0])
    exact this
  · have hv0 : v < 0 := by rcases sign_cases v with s | s | s <;> omega
    have hl1 := hpL
    rw [if_pos hv0] at hl1
    refine sp_X12_tells0 (p := p) hk hp h9 (by omega) ?_
    intro H' b1 b2 b3 b4
    have hp' : RefP (H' M) M := hp.cong _ rfl b2
    refine sp_X12_sign hk hp' (by omega) (by rw [b1.at 1 rfl]; exact hv) ⟨fun g2 => ?_, fun g2 => ?_⟩
    · rw [b3]
      have := rest H' [45] b1 b2 (by rw [b3]; rfl) (fun j hj => by rw [b4, up1_ne (by omega)]) (by rw [b4]; exact At.snoc (l := []) At.nil) (by unfold numL; rw [if_pos hv0, hdl (by omega)])
      exact this
    · exfalso; rcases sign_cases v with s | s | s <;> omega
end Tell
