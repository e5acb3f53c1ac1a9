/-! OUT of the class: writeRatio, writeShare; bend and cut side by side -/
theorem decR_len {k : Nat} : ∀ {v : Nat}, v < 10 ^ k → (decR v).length ≤ k := by
  induction k with
  | zero =>
    intro v h
    have : v = 0 := by simpa using h
    rw [this, decR_0]; simp
  | succ k ih =>
    intro v h
    rcases Nat.eq_zero_or_pos v with z | z
    · rw [z, decR_0]; simp
    · rw [decR_pos z]
      have := ih (v := v / 10) (by rw [Nat.pow_succ] at h; omega)
      simp only [List.length_cons]
      omega
theorem decL_len {k v : Nat} (hk : 0 < k) (h : v < 10 ^ k) : (decL v).length ≤ k := by
  unfold decL
  by_cases z : v = 0
  · rw [if_pos z]; simp; omega
  · rw [if_neg z]
    have := decR_len h
    simpa using this
/-- the shortened pair -/
theorem red_of {N D : Int} (hD : 0 < D) : Red (N.tdiv ((Nat.gcd N.natAbs D.natAbs : Nat) : Int)) (D.tdiv ((Nat.gcd N.natAbs D.natAbs : Nat) : Int)) ∧ N.tdiv ((Nat.gcd N.natAbs D.natAbs : Nat) : Int) * D = N * D.tdiv ((Nat.gcd N.natAbs D.natAbs : Nat) : Int) := by
  have hg : 0 < Nat.gcd N.natAbs D.natAbs := Nat.gcd_pos_of_pos_right _ (by omega)
  have d1 : ((Nat.gcd N.natAbs D.natAbs : Nat) : Int) ∣ N := Int.natAbs_dvd_natAbs.mp (by simp; exact Nat.gcd_dvd_left _ _)
  have d2 : ((Nat.gcd N.natAbs D.natAbs : Nat) : Int) ∣ D := Int.natAbs_dvd_natAbs.mp (by simp; exact Nat.gcd_dvd_right _ _)
  have hG : Int.gcd N D = Nat.gcd N.natAbs D.natAbs := rfl
  generalize Nat.gcd N.natAbs D.natAbs = g at *
  obtain ⟨a, rfl⟩ := d1
  obtain ⟨b, rfl⟩ := d2
  rw [Int.mul_tdiv_cancel_left _ (by omega), Int.mul_tdiv_cancel_left _ (by omega)]
  have h1 : Int.gcd ((g : Int) * a) ((g : Int) * b) = g * Int.gcd a b := by rw [Int.gcd_mul_left]; simp
  rw [hG] at h1
  have h2 : g * 1 = g * Int.gcd a b := by omega
  refine ⟨⟨?_, (Nat.eq_of_mul_eq_mul_left hg h2).symm⟩, ?_⟩
  · rcases Int.lt_or_le 0 b with z | z
    · exact z
    · have := Int.mul_le_mul_of_nonneg_left z (show 0 ≤ (g : Int) by omega)
      omega
  · generalize (g : Int) = g'
    grind
section Wr
variable {d : Nat} {K : Shp} {H : Mem} {T : Nat} {q : Mem → Prop}
theorem WSt.app {G G' : Mem} {L1 L2 : List Int} (h1 : WSt H G T 0 L1) (h2 : WSt G G' T (0 + L1.length) L2) : WSt H G' T 0 (L1 ++ L2) := by
  obtain ⟨a1, a2, a3, a4, a5⟩ := h1
  obtain ⟨b1, b2, b3, b4, b5⟩ := h2
  refine ⟨fun c c0 c1 => (b1 c c0 c1).trans (a1 c c0 c1), a2.same b2, by rw [b3]; simp, fun j hj => absurd hj (by omega), ?_⟩
  exact At.app (a5.congr (fun i hi => b4 _ (by omega))) b5
theorem sp_X8_writeRatio {r : Nat} {b top bot : Int} (hk : K[T]? = some (8, 3)) (hp : H T 1 = ((T + 1 : Nat) : Int)) (hk1 : K[T + 1]? = some (20, 110)) (hr : RatK K H r) (hrT : T + 1 < r) (ht : Dig (H (r + 2)) top) (hb : Dig (H (r + 4)) bot) (hlen : 2 + (decL top.toNat).length + (decL bot.toNat).length ≤ 110)
    (hq : ∀ H', WSt H H' T 0 ((if b = 0 then [] else [45]) ++ (decL top.toNat ++ ([47] ++ decL bot.toNat))) → q H') : Cv mX8_writeRatio (d + 2) [(2, (T : Int)), (0, b), (2, (r : Int))] K H q := by
  obtain ⟨g1, ⟨a1, a2, -⟩, w1, w2, -⟩ := hr
  have body : ∀ (G : Mem) (L0 : List Int), WSt H G T 0 L0 → L0 = (if b = 0 then [] else [45]) → Cv mX8_writeWhole (d + 1) [(2, (T : Int)), (2, (G r 0))] K G (fun H7 => Cv mX8_write (d + 1) [(2, (T : Int)), (0, 47)] K H7 (fun H9 => Cv mX8_writeWhole (d + 1) [(2, (T : Int)), (2, (H9 r 1))] K H9 (fun H11 => q H11))) := by
    intro G L0 st hL0
    have hl0 : L0.length ≤ 1 := by rw [hL0]; split <;> simp
    have st' := st
    obtain ⟨s1, s2, s3, -, -⟩ := st'
    have o : ∀ c, T + 1 < c → G c = H c := fun c hc => s1 c (by omega) (by omega)
    rw [o r (by omega), a1]
    refine sp_X8_writeWhole (p := 0 + L0.length) hk (by rw [s2 1 rfl]; exact hp) hk1 (w1.cells (o _ (by omega))) ⟨by omega, by omega, by omega, by omega⟩ (v := top) (by rw [o _ (by omega)]; exact ht) s3 (by omega) ?_
    intro G1 t1
    have st1 := st.app t1
    have st1' := st1
    obtain ⟨x1, x2, x3, -, -⟩ := st1'
    refine sp_X8_write (p := 0 + (L0 ++ decL top.toNat).length) hk (by rw [x2 1 rfl]; exact hp) hk1 x3 (by simp; omega) ?_
    intro G2 y1 y2 y3
    have st2 := st1.write y1 y2 y3
    have st2' := st2
    obtain ⟨z1, z2, z3, -, -⟩ := st2'
    have o2 : ∀ c, T + 1 < c → G2 c = H c := fun c hc => z1 c (by omega) (by omega)
    rw [o2 r (by omega), a2]
    refine sp_X8_writeWhole (p := 0 + (L0 ++ decL top.toNat ++ [47]).length) hk (by rw [z2 1 rfl]; exact hp) hk1 (w2.cells (o2 _ (by omega))) ⟨by omega, by omega, by omega, by omega⟩ (v := bot) (by rw [o2 _ (by omega)]; exact hb) z3 (by simp; omega) ?_
    intro G3 t3
    have st3 := st2.app t3
    rw [hL0] at st3
    refine hq G3 ?_
    rw [← List.append_assoc, ← List.append_assoc]
    exact st3
  refine eX8_writeRatio fun _ _ => bX8_writeRatio_0 ?_
  simp only [Int.toNat_natCast, Option.some.injEq, Prod.mk.injEq, true_and, and_true, exists_eq_left', hk]
  refine ⟨by omega, fun H3 e3 => ?_⟩
  have st0 : WSt H H3 T 0 [] := ⟨fun c c0 c1 => by rw [e3, upA_ne c0], by rw [e3, upA_same]; exact FO.up rfl, by rw [e3, upA_same, up1_same]; rfl, fun j hj => absurd hj (by omega), At.nil⟩
  refine ⟨fun z => ?_, fun z => ?_⟩
  · simp only [Int.toNat_natCast, Option.some.injEq, Prod.mk.injEq, true_and, and_true, exists_eq_left', g1]
    exact ⟨by omega, body H3 [] st0 (by rw [if_pos z])⟩
  · obtain ⟨s1, s2, s3, -, -⟩ := id st0
    refine sp_X8_write (p := 0) hk (by rw [s2 1 rfl]; exact hp) hk1 s3 (by omega) ?_
    intro G y1 y2 y3
    have st1 := st0.write (x := 45) y1 y2 y3
    simp only [Int.toNat_natCast, Option.some.injEq, Prod.mk.injEq, true_and, and_true, exists_eq_left', g1]
    exact ⟨by omega, body G [45] st1 (by rw [if_neg z])⟩
theorem sp_X8_writeShare {s : Nat} (hk : K[T]? = some (8, 3)) (hp : H T 1 = ((T + 1 : Nat) : Int)) (hp2 : H T 2 = ((T + 2 : Nat) : Int)) (hk1 : K[T + 1]? = some (20, 110)) (hr : RatK K H (T + 2)) (hs : T + 12 < s) (hks : K[s]? = some (5, 2)) (h0 : 0 < H s 1) (h1 : H s 1 < 10000000000) (h2 : -1000000000000000000 < H s 0) (h3 : H s 0 < 1000000000000000000)
    (hq : ∀ H' P Q, Red P Q → P * H s 1 = H s 0 * Q → (∀ c, c ≠ s → (c < T ∨ T + 12 < c) → H' c = H c) → FO [0] (H T) (H' T) → H' T 0 = ((fracL P Q).length : Int) → (fracL P Q).length ≤ 50 → At (H' (T + 1)) 0 (fracL P Q) → RatK K H' (T + 2) → q H') : Cv mX8_writeShare (d + 3) [(2, (T : Int)), (2, (s : Int))] K H q := by
  refine eX8_writeShare fun _ => bX8_writeShare_0 ?_
  simp only [Int.toNat_natCast, Option.some.injEq, Prod.mk.injEq, true_and, and_true, exists_eq_left', hks]
  refine ⟨by omega, (sp_X5_shorten (d := d) hks h0 (by omega) (by omega) (by omega)).mono ?_⟩
  rintro _ ⟨g, rfl, hred, hrel, hle, hab⟩
  have oT : upA H s g T = H T := upA_ne (by omega)
  have os : upA H s g s = g := upA_same _ _ _
  have hq1 := hred.1
  simp only [Int.toNat_natCast, Option.some.injEq, Prod.mk.injEq, true_and, and_true, exists_eq_left', hk, oT, os, hp2, hr.1]
  refine ⟨by omega, ⟨by omega, by omega⟩, by omega, ?_⟩
  have hr3 : RatK K (upA H s g) (T + 2) := hr.cells (fun j hj => upA_ne (by omega))
  refine (sp_X3_put (d := d + 1) hr3 (x := max (g 0) (-g 0)) (y := g 1) (by omega) (by omega) (by omega) (by omega)).mono ?_
  rintro H10 ⟨hr10, sm, dt, db⟩
  have o10 : ∀ c, c < T + 3 ∨ T + 12 < c → H10 c = upA H s g c := fun c hc => sm c (fun z => by unfold RatC at z; omega)
  have oT10 : H10 T = H T := by rw [o10 T (by omega), oT]
  have os10 : H10 s = g := by rw [o10 s (by omega), os]
  have lt : (decL (max (g 0) (-g 0)).toNat).length ≤ 18 := decL_len (by omega) (by omega)
  have lb : (decL (g 1).toNat).length ≤ 18 := decL_len (by omega) (by omega)
  have hLq : numL (g 1) = decL (g 1).toNat := by unfold numL; rw [if_neg (by omega), show (g 1).natAbs = (g 1).toNat by omega]; rfl
  have hLp : numL (g 0) = (if g 0 < 0 then [45] else []) ++ decL (max (g 0) (-g 0)).toNat := by unfold numL; rw [show (max (g 0) (-g 0)).toNat = (g 0).natAbs by omega]
  have fin : ∀ (b : Int), (b = if g 0 < 0 then 1 else 0) → Cv mX8_writeRatio (d + 2) [(2, (T : Int)), (0, b), (2, ((T + 2 : Nat) : Int))] K H10 q := by
    intro b hb
    refine sp_X8_writeRatio (r := T + 2) hk (by rw [oT10]; exact hp) hk1 hr10 (by omega) dt db (by omega) ?_
    rintro H' ⟨s1, s2, s3, s4, s5⟩
    have eL : (if b = 0 then [] else [45]) ++ (decL (max (g 0) (-g 0)).toNat ++ ([47] ++ decL (g 1).toNat)) = fracL (g 0) (g 1) := by
      unfold fracL
      rw [hLq, hLp, ← List.append_assoc, hb]
      by_cases z : g 0 < 0
      · rw [if_pos z, if_pos z, if_neg (by decide)]
      · rw [if_neg z, if_neg z, if_pos rfl]
    rw [eL] at s3 s5
    have ll : (fracL (g 0) (g 1)).length ≤ 50 := by
      unfold fracL
      rw [hLq, hLp]
      simp only [List.length_append, List.length_cons, List.length_nil]
      split <;> simp <;> omega
    refine hq H' (g 0) (g 1) hred (by rw [hrel]) (fun c c0 c1 => by rw [s1 c (by omega) (by omega), o10 c (by omega), upA_ne c0]) (by rw [oT10] at s2; exact s2) (by rw [s3]; simp) ll s5 (hr10.cells (fun j hj => s1 _ (by omega) (by omega)))
  rw [oT10, hp2, os10]
  refine ⟨fun z => fin 0 (by rw [if_neg z]), fun z => fin 1 (by rw [if_pos z])⟩
end Wr
/-- an asking call that lays OUT anew -/
theorem Inv.askOut {K : Shp} {H H1 H2 : Mem} {X M : Nat} {L : List Int} (h : Inv K H X M) (c : ∀ x, x ≠ X → ¬ (X + 1 ≤ x ∧ x ≤ X + 13) → x ≠ X + 21 → ¬ (X + 24 ≤ x ∧ x ≤ X + 53) → ¬ (X + 69 ≤ x ∧ x ≤ X + 82) → H1 x = H x) (cX : FO [0] (H X) (H1 X)) (c1 : FO [0] (H (X + 1)) (H1 (X + 1))) (c21 : FO [5, 6] (H (X + 21)) (H1 (X + 21))) (hs : ScrP K H1 X)
    (f1 : FC M [0, 1, 2, 3, 4, 5, 14, 19, 26] H1 H2) (f2 : FO [0, 2, 6, 7, 9, 19, 20, 21, 22, 30, 38, 39, 40, 41, 42, 43, 44, 45, 46, 47, 48, 50] (H1 M) (H2 M)) (hL : L.length ≤ 110) (o1 : H1 (X + 1) 0 = (L.length : Int)) (o2 : At (H1 (X + 2)) 0 L) (o3 : H2 M 9 = (L.length : Int)) (o4 : At (H2 (M + 5)) 0 L) (hst : H1 X 0 = H2 M 0) : Inv K H2 X M := by
  have hM := h.1
  have lo : ∀ x, x < M → H2 x = H1 x := fun x hx => f1.lt hx
  have cM : H1 M = H M := c M (by omega) (by omega) (by omega) (by omega) (by omega)
  refine h.ask (fun x k hk => ?_) (hs.cells (fun x hx => lo x (by omega))) ?_ (by rw [lo X (by omega)]; exact hst)
  · by_cases xM : x = M
    · subst xM
      rw [f2 k (by unfold keepP at hk; simp; omega), cM]
    · by_cases xX : x = X
      · subst xX
        rw [lo _ (by omega), cX k (by unfold keepP at hk; simp; omega)]
      · by_cases x1 : x = X + 1
        · subst x1
          rw [lo _ (by omega), c1 k (by unfold keepP at hk; simp; omega)]
        · by_cases x21 : x = X + 21
          · subst x21
            rw [lo _ (by omega), c21 k (by unfold keepP at hk; simp; omega)]
          · rw [f1.ne (x := x) (fun j hj => by simp at hj; unfold keepP at hk; omega), c x xX (by unfold keepP at hk; omega) x21 (by unfold keepP at hk; omega) (by unfold keepP at hk; omega)]
  · have l1 := lo (X + 1) (by omega)
    have l2 := lo (X + 2) (by omega)
    refine ⟨by rw [o3, l1, o1], by rw [l1, o1]; omega, fun k hk => ?_⟩
    rw [l1, o1] at hk
    have a := o4 k (by omega)
    have b := o2 k (by omega)
    rw [Nat.zero_add] at a b
    rw [a, l2, b]
section Bend
variable {d : Nat} {K : Shp} {H : Mem} {X M : Nat} {q : Int → Int → Mem → Prop} {a b c : Int}
/-- giveShare: the share at s (bent or reached) is told -/
theorem sp_X11_giveShare {s : Nat} {qi : Int → Mem → Prop} (hS : InvS K X) (hX : RbP (H X) X) (hT1 : H (X + 1) 1 = ((X + 2 : Nat) : Int)) (hT2 : H (X + 1) 2 = ((X + 3 : Nat) : Int)) (hr : RatK K H (X + 3)) (hs : s = X + 70 ∨ s = X + 71) (h0 : 0 < H s 1) (h1 : H s 1 < 10000000000) (h2 : -1000000000000000000 < H s 0) (h3 : H s 0 < 1000000000000000000)
    (hq : ∀ H' P Q, Red P Q → P * H s 1 = H s 0 * Q → (∀ c, c ≠ X → c ≠ s → (c < X + 1 ∨ X + 13 < c) → H' c = H c) → H' X = up1 (H X) 0 0 → FO [0] (H (X + 1)) (H' (X + 1)) → H' (X + 1) 0 = ((fracL P Q).length : Int) → (fracL P Q).length ≤ 50 → At (H' (X + 2)) 0 (fracL P Q) → RatK K H' (X + 3) → qi ((fracL P Q).length : Int) H') : Ci mX11_giveShare (d + 4) [(2, (X : Int)), (2, (s : Int))] K H qi := by
  have hks : K[s]? = some (5, 2) := by
    rcases hs with e | e
    · rw [e]; exact hS.2.2.2.2.2.2.2.2.2.2.2.2.1.2.1
    · rw [e]; exact hS.2.2.2.2.2.2.2.2.2.2.2.2.1.2.2.1
  refine eX11_giveShare fun _ => bX11_giveShare_0 ?_
  simp only [Int.toNat_natCast, Option.some.injEq, Prod.mk.injEq, true_and, and_true, exists_eq_left', hS.1, hX.1, hS.2.1]
  refine ⟨by omega, by omega, sp_X8_writeShare (T := X + 1) hS.2.1 hT1 hT2 hS.2.2.1 hr (by omega) hks h0 h1 h2 h3 ?_⟩
  intro H5 P Q r1 r2 f1 f2 f3 f4 f5 f6
  have m5 : H5 X = H X := f1 X (by omega) (by omega)
  simp only [Int.toNat_natCast, Option.some.injEq, Prod.mk.injEq, true_and, and_true, exists_eq_left', m5, hX.1, hS.2.1, f3]
  refine ⟨by omega, sp_X11_give hS.1 (fun H' e' => hq H' P Q r1 r2 (fun c c0 c1 c2 => by rw [e', upA_ne c0, f1 c c1 (by omega)]) (by rw [e', upA_same, m5]) (by rw [e', upA_ne (by omega)]; exact f2) (by rw [e', upA_ne (by omega)]; exact f3) f4 (by rw [e', upA_ne (by omega)]; exact f5) (f6.cells (fun j hj => by rw [e', upA_ne (by omega)])))⟩
/-- the class's walkTo, where it can be walked -/
theorem sp_X11_walkTo {i nb nr : Nat} {n hi : Int} {qi : Int → Mem → Prop} (hS : InvS K X) (hX : RbP (H X) X) (ha : i < 4) (hsec : H (X + 14) i = ((X + 83 + 10 * i : Nat) : Int)) (hw : WkP (H (X + 69)) (X + 69)) (sI : SecI K H (X + 83 + 10 * i) nb nr) (hn : -1000000 ≤ n ∧ n ≤ 1000000)
    (hno : ¬ (-sumN (H (X + 83 + 10 * i + 5)) nr ≤ n ∧ n ≤ H (X + 83 + 10 * i) 0 * areaF (H (X + 83 + 10 * i + 1)) (H (X + 83 + 10 * i + 2)) (H (X + 83 + 10 * i + 3)) nb + sumN (H (X + 83 + 10 * i + 5)) nr) → ∀ H', (∀ x, x < X + 69 ∨ X + 72 < x → H' x = H x) → WkP (H' (X + 69)) (X + 69) → qi 4 H')
    (hq : ∀ H' N D P Z, (-sumN (H (X + 83 + 10 * i + 5)) nr ≤ n ∧ n ≤ H (X + 83 + 10 * i) 0 * areaF (H (X + 83 + 10 * i + 1)) (H (X + 83 + 10 * i + 2)) (H (X + 83 + 10 * i + 3)) nb + sumN (H (X + 83 + 10 * i + 5)) nr) → walkR (H (X + 83 + 10 * i) 0) (H (X + 83 + 10 * i) 1) (H (X + 83 + 10 * i + 1)) (H (X + 83 + 10 * i + 2)) (H (X + 83 + 10 * i + 3)) nb (H (X + 83 + 10 * i + 4)) (H (X + 83 + 10 * i + 5)) nr hi (n + sumN (H (X + 83 + 10 * i + 5)) nr) = some (N, D, P, Z) → (∀ x, x < X + 69 ∨ X + 72 < x → H' x = H x) → WkP (H' (X + 69)) (X + 69) → H' (X + 70) 0 = sgF hi * N → H' (X + 70) 1 = D → H' (X + 71) 0 = cutT hi P Z → H' (X + 71) 1 = Z → qi 0 H') : Ci mX11_walkTo (d + 3) [(2, (X : Int)), (0, (i : Int)), (0, n), (0, hi)] K H qi := by
  have hWS : WkS K (X + 69) := hS.2.2.2.2.2.2.2.2.2.2.2.2.1
  obtain ⟨hk, hp, hn3, hr7, hf, hz, hB, hR, hS5, h2, hE⟩ := id sI
  have hfa := fareab hf hB
  have hpb := pull_bd hS5 nr (Nat.le_refl _)
  have hr6 := hR.1
  refine eX11_walkTo fun _ _ _ _ => bX11_walkTo_0 ?_
  simp only [Int.toNat_natCast, Option.some.injEq, Prod.mk.injEq, true_and, and_true, exists_eq_left', hS.1]
  refine ⟨by omega, sp_X11_isSection ?_⟩
  rw [decide_eq_true (show 0 ≤ (i : Int) ∧ (i : Int) ≤ 3 by omega)]
  refine ⟨fun _ => sp_X11_isNear ?_, fun g => absurd g (by decide)⟩
  rw [decide_eq_true hn]
  refine ⟨fun _ => ?_, fun g => absurd g (by decide)⟩
  simp only [Int.toNat_natCast, Option.some.injEq, Prod.mk.injEq, true_and, and_true, exists_eq_left', hX.2.1, hS.2.2.2.1, hsec, hk.1, hX.2.2.2.2.2.1, hWS.1, hp.2.2.2.2.1]
  refine ⟨by omega, by omega, by omega, by omega, by omega, sp_X9_arm sI hWS hw (by omega) hk.2.2.2.2.2.1 (by omega) hS5 ?_⟩
  intro H1 a1 a2 a3
  have o1 : ∀ x, x < X + 69 ∨ X + 72 < x → H1 x = H x := fun x hx => a1 x (by omega) (by omega)
  have sI1 : SecI K H1 (X + 83 + 10 * i) nb nr := sI.keepc (fun j hj => o1 _ (by omega))
  simp only [Int.toNat_natCast, Option.some.injEq, Prod.mk.injEq, true_and, and_true, exists_eq_left', o1 X (by omega), hX.2.2.2.2.2.1, hWS.1]
  refine ⟨by omega, sp_X9_reaches hWS ?_⟩
  rw [a3.1, a3.2.1, o1 (X + 83 + 10 * i) (by omega), h2]
  by_cases hc : -sumN (H (X + 83 + 10 * i + 5)) nr ≤ n ∧ n ≤ H (X + 83 + 10 * i) 0 * areaF (H (X + 83 + 10 * i + 1)) (H (X + 83 + 10 * i + 2)) (H (X + 83 + 10 * i + 3)) nb + sumN (H (X + 83 + 10 * i + 5)) nr
  · rw [decide_eq_true hc]
    refine ⟨fun _ => ?_, fun g => absurd g (by decide)⟩
    simp only [Int.toNat_natCast, Option.some.injEq, Prod.mk.injEq, true_and, and_true, exists_eq_left', o1 X (by omega), hX.2.2.2.2.2.1, hWS.1]
    obtain ⟨N, D, P, Z, hW⟩ := walk_some (us := H (X + 83 + 10 * i + 5)) (z := H (X + 83 + 10 * i) 1) (hi := hi) (needs := n + sumN (H (X + 83 + 10 * i + 5)) nr) hf.1 hB hR (by omega)
    refine ⟨by omega, sp_X9_fill sI1 hWS a2 (by omega) a3 hS5 (by omega) (by omega) (N := N) (D := D) (P := P) (Z := Z) ?_ ?_⟩
    · rw [o1 (X + 83 + 10 * i) (by omega), o1 (X + 83 + 10 * i + 1) (by omega), o1 (X + 83 + 10 * i + 2) (by omega), o1 (X + 83 + 10 * i + 3) (by omega), o1 (X + 83 + 10 * i + 4) (by omega)]
      exact hW
    · intro H2 b1 b2 b3 b4 b5
      exact hq H2 N D P Z hc hW (fun x hx => (b1 x (by omega) (by omega)).trans (o1 x hx)) (by rw [b1 _ (by omega) (by omega)]; exact a2) b2 b3 b4 b5
  · rw [decide_eq_false hc]
    exact ⟨fun g => absurd rfl g, fun _ => hno hc H1 o1 a2⟩
end Bend
