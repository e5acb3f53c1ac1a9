/-! constructors: Section, Beam, RodBeam -/
def SecN (K : Shp) (H : Mem) (s : Nat) : Prop := SecI K H s 0 0 ∧ H s 0 = 10 ∧ H s 1 = 50 ∧ H s 14 = 0
theorem SecN.later {K K' : Shp} {H H' : Mem} {a n b : Nat} (h : SecN K H b) (L : Later a n K H K' H') (hb : b + 9 < n) (ha : a < b ∨ b + 9 < a) : SecN K' H' b := by
  obtain ⟨⟨⟨k0, k1, k2, k3, k4, k5, k6, k7, k8, k9⟩, rest⟩, h2⟩ := h
  have k' : SecS K' b := ⟨L.1 _ _ k0, L.1 _ _ k1, L.1 _ _ k2, L.1 _ _ k3, L.1 _ _ k4, L.1 _ _ k5, L.1 _ _ k6, L.1 _ _ k7, L.1 _ _ k8, L.1 _ _ k9⟩
  have i' : SecI K' H b 0 0 := ⟨k', rest⟩
  exact ⟨i'.keepc (fun j hj => L.2 _ (by omega) (by omega)), by rw [L.2 b (by omega) (by omega)]; exact h2⟩
section Mk2
variable {d : Nat} {K : Shp} {H : Mem} {a : Nat} {q : Shp → Mem → Prop}
set_option maxHeartbeats 1000000 in
theorem in_X4 (hn : K.length = a + 1) (ha : K[a]? = some (4, 18)) (hq : ∀ l H', (K ++ l).length = a + 10 → (∀ x, x < a → H' x = H x) → SecN (K ++ l) H' a → q l H') : Cn mX4_init (d + 3) 9 96 [(2, (a : Int))] K H q := by
  refine eX4_init fun _ => bX4_init_0 ?_
  simp only [Int.toNat_natCast]
  refine And.intro (by omega) ?_
  have S0 := St.start (H := H) hn
  refine ⟨by decide, by decide, fun A0 a0 B0 b0 => ?_⟩
  refine And.intro (by rw [b0]; exact Ext.app _ _ _ ha) ?_
  intro H0 h0
  obtain ⟨S1, w0, z0, v0, L0⟩ := S0.arr a0 b0 h0
  refine ⟨by decide, by decide, fun A1 a1 B1 b1 => ?_⟩
  intro H1 h1
  obtain ⟨S2, w1, z1, v1, L1⟩ := S1.arr a1 b1 h1
  refine ⟨by decide, by decide, fun A2 a2 B2 b2 => ?_⟩
  intro H2 h2
  obtain ⟨S3, w2, z2, v2, L2⟩ := S2.arr a2 b2 h2
  refine ⟨by decide, by decide, fun A3 a3 B3 b3 => ?_⟩
  intro H3 h3
  obtain ⟨S4, w3, z3, v3, L3⟩ := S3.arr a3 b3 h3
  refine ⟨by decide, by decide, fun A4 a4 B4 b4 => ?_⟩
  intro H4 h4
  obtain ⟨S5, w4, z4, v4, L4⟩ := S4.arr a4 b4 h4
  refine ⟨by decide, by decide, fun A5 a5 B5 b5 => ?_⟩
  intro H5 h5
  obtain ⟨S6, w5, z5, v5, L5⟩ := S5.arr a5 b5 h5
  refine ⟨by decide, by decide, fun A6 a6 B6 b6 => ?_⟩
  intro H6 h6
  obtain ⟨S7, w6, z6, v6, L6⟩ := S6.arr a6 b6 h6
  refine ⟨by decide, by decide, fun A7 a7 B7 b7 => ?_⟩
  intro H7 h7
  obtain ⟨S8, w7, z7, v7, L7⟩ := S7.arr a7 b7 h7
  intro H8 h8
  obtain ⟨S9, v8, L8⟩ := S8.fld h8
  intro H9 h9
  obtain ⟨S10, v9, L9⟩ := S9.fld h9
  intro H10 h10
  obtain ⟨S11, v10, L10⟩ := S10.fld h10
  refine ⟨by decide, by decide, fun A11 a11 B11 b11 => ?_⟩
  intro H11 h11
  obtain ⟨S12, w11, z11, v11, L11⟩ := S11.arr a11 b11 h11
  have T10 := L11
  have T9 := L10.tr T10 (by omega)
  have T8 := L9.tr T9 (by omega)
  have T7 := L8.tr T8 (by omega)
  have T6 := L7.tr T7 (by omega)
  have T5 := L6.tr T6 (by omega)
  have T4 := L5.tr T5 (by omega)
  have T3 := L4.tr T4 (by omega)
  have T2 := L3.tr T3 (by omega)
  have T1 := L2.tr T2 (by omega)
  have T0 := L1.tr T1 (by omega)
  have TT := L0.tr T0 (by omega)
  have vv : H11 a = (up1 (up1 (up1 (up1 (up1 (up1 (up1 (up1 (up1 (up1 (up1 (up1 (H a) 4 ((a + 1 : Nat) : Int)) 5 ((a + 2 : Nat) : Int)) 6 ((a + 3 : Nat) : Int)) 8 ((a + 4 : Nat) : Int)) 9 ((a + 5 : Nat) : Int)) 11 ((a + 6 : Nat) : Int)) 12 ((a + 7 : Nat) : Int)) 13 ((a + 8 : Nat) : Int)) 14 0) 15 0) 16 0) 17 ((a + 9 : Nat) : Int)) := by rw [v11, v10, v9, v8, v7, v6, v5, v4, v3, v2, v1, v0]
  have R : SecS B11 a := ⟨TT.1 _ _ ha, T0.1 _ _ w0, T1.1 _ _ w1, T2.1 _ _ w2, T3.1 _ _ w3, T4.1 _ _ w4, T5.1 _ _ w5, T6.1 _ _ w6, T7.1 _ _ w7, w11⟩
  have RP : SecP (H11 a) a := by rw [vv]; exact ⟨rfl, rfl, rfl, rfl, rfl, rfl, rfl, rfl, rfl⟩
  refine sp_X4_begin R RP (by decide) (by decide) ?_
  intro H' c sI e0 e1 e14 _
  refine qn_of S12.1 (fun l el => ?_)
  have R' : SecN B11 H' a := ⟨sI, e0, e1, e14⟩
  rw [el] at R'
  exact hq l H' (by rw [← el]; exact S12.2.1) (fun x hx => (c x (by omega) (by omega) (by omega) (by omega)).trans (S12.2.2.2 x hx)) R'

def BmK (K : Shp) (H : Mem) (b : Nat) : Prop := K[b]? = some (0, 12) ∧ K[b + 1]? = some (24, 5) ∧ (K[b + 2]? = some (22, 2) ∧ ∀ e, H (b + 2) e = 0) ∧ RatK K H (b + 3) ∧ RatK K H (b + 14) ∧ (WkS K (b + 25) ∧ WkP (H (b + 25)) (b + 25)) ∧ (K[b + 29]? = some (5, 2) ∧ K[b + 30]? = some (5, 2) ∧ K[b + 31]? = some (5, 2) ∧ K[b + 32]? = some (5, 2)) ∧ (∀ i, i < 5 → SpnK K H (b + 33 + 3 * i) ∧ H (b + 1) i = ((b + 33 + 3 * i : Nat) : Int)) ∧
  (H b 1 = ((b + 1 : Nat) : Int) ∧ H b 2 = ((b + 2 : Nat) : Int) ∧ H b 3 = ((b + 3 : Nat) : Int) ∧ H b 4 = ((b + 14 : Nat) : Int) ∧ H b 7 = ((b + 25 : Nat) : Int) ∧ H b 8 = ((b + 29 : Nat) : Int) ∧ H b 9 = ((b + 30 : Nat) : Int) ∧ H b 10 = ((b + 31 : Nat) : Int) ∧ H b 11 = ((b + 32 : Nat) : Int)) ∧ H b 0 = 0
theorem BmK.later {K K' : Shp} {H H' : Mem} {a n b : Nat} (h : BmK K H b) (L : Later a n K H K' H') (hb : b + 47 < n) (ha : a < b ∨ b + 47 < a) : BmK K' H' b := by
  obtain ⟨h1, h2, ⟨h3, h3'⟩, h4, h5, ⟨h6, h6'⟩, ⟨h7, h8, h9, h10⟩, h11, h12, h13⟩ := h
  refine ⟨L.1 _ _ h1, L.1 _ _ h2, ⟨L.1 _ _ h3, by rw [L.2 _ (by omega) (by omega)]; exact h3'⟩, h4.later L (by omega) (by omega), h5.later L (by omega) (by omega), ⟨h6.later L, by rw [L.2 _ (by omega) (by omega)]; exact h6'⟩, ⟨L.1 _ _ h7, L.1 _ _ h8, L.1 _ _ h9, L.1 _ _ h10⟩, fun i hi => ⟨(h11 i hi).1.later L (by omega) (by omega), by rw [L.2 _ (by omega) (by omega)]; exact (h11 i hi).2⟩, by rw [L.2 b (by omega) (by omega)]; exact h12, by rw [L.2 b (by omega) (by omega)]; exact h13⟩
set_option maxHeartbeats 1000000 in
theorem bm_loop {Kb : Shp} {Hb : Mem} {Q : Option AV → Shp → Mem → Prop} (ka : Kb[a]? = some (0, 12)) (k1 : Kb[a + 1]? = some (24, 5)) (p1 : Hb a 1 = ((a + 1 : Nat) : Int)) (hq : ∀ K' H', (∃ l, K' = Kb ++ l) → K'.length = a + 48 → Later (a + 1) (a + 33) Kb Hb K' H' → (∀ i, i < 5 → SpnK K' H' (a + 33 + 3 * i) ∧ H' (a + 1) i = ((a + 33 + 3 * i : Nat) : Int)) → Q none K' H') :
    ∀ m i K H fc fs, i + m = 5 → fc = 3 * m → fs = 9 * m → (∃ l, K = Kb ++ l) → K.length = a + 33 + 3 * i → Later (a + 1) (a + 33) Kb Hb K H → (∀ j, j < i → SpnK K H (a + 33 + 3 * j) ∧ H (a + 1) j = ((a + 33 + 3 * j : Nat) : Int)) → FX0_init_113 (d + 1) fc fs K H Q (a : Int) (i : Int) := by
  intro m
  induction m with
  | zero =>
    intro i K H fc fs hm e1 e2 gr len L sp
    have ei : i = 5 := by omega
    rw [ei] at len sp
    exact bX0_init_113 ⟨fun _ => hq K H gr (by omega) L sp, fun g => by omega⟩
  | succ m ih =>
    intro i K H fc fs hm e1 e2 gr len L sp
    have pa : H a 1 = ((a + 1 : Nat) : Int) := by rw [L.2 a (by omega) (by omega)]; exact p1
    refine bX0_init_113 ?_
    simp only [Int.toNat_natCast, pa]
    refine ⟨fun g => by omega, fun _ => ⟨by omega, L.1 _ _ ka, by omega, by omega, fun A0 a0 B0 b0 => ⟨by omega, by omega, ?_⟩⟩⟩
    have S : St K H (a + 32 + 3 * i) K H (a + 33 + 3 * i) := ⟨⟨[], (List.append_nil K).symm⟩, len, by omega, fun _ _ => rfl⟩
    obtain ⟨o0, p0, r0, x0, _, f0⟩ := S.obj a0 b0
    rw [o0]
    refine in_X7 (a := a + 33 + 3 * i) p0 r0 ?_
    intro l0 C0 len0 fr0 w0 K0 k0
    have X0 : Ext K K0 := x0.tr (by rw [k0]; exact Ext.app _)
    refine ⟨by omega, 5, X0 _ _ (L.1 _ _ k1), by omega, by omega, fun H1 h1 => ⟨⟨by omega, by omega⟩, ih (i + 1) K0 H1 _ _ (by omega) (by omega) (by omega) ?_ (by rw [k0]; omega) ?_ ?_⟩⟩
    · obtain ⟨l, el⟩ := gr
      exact ⟨l ++ ([(7, 5)] ++ l0), by rw [k0, b0, el, List.append_assoc, List.append_assoc]⟩
    · exact ⟨L.1.tr X0, fun x y1 y2 => by rw [h1, upA_ne y1, fr0 x (by omega), f0 x (by omega)]; exact L.2 x y1 y2⟩
    · intro j hj
      rw [← k0] at w0
      have LL : Later (a + 1) (a + 33 + 3 * i + 3) K0 C0 K0 H1 := ⟨Ext.rf, fun x y1 _ => by rw [h1, upA_ne y1]⟩
      by_cases e : j = i
      · rw [e]
        exact ⟨w0.later LL (by omega) (by omega), by rw [h1, upA_same, up1_same]⟩
      · have g := sp j (by omega)
        have L2 : Later (a + 1) (a + 33 + 3 * i) K H K0 H1 := ⟨X0, fun x y1 y2 => by rw [h1, upA_ne y1, fr0 x y2, f0 x y2]⟩
        refine ⟨g.1.later L2 (by omega) (by omega), ?_⟩
        rw [h1, upA_same, up1_ne e, fr0 _ (by omega), f0 _ (by omega)]
        exact g.2
set_option maxHeartbeats 2000000 in
theorem in_X0 (hn : K.length = a + 1) (ha : K[a]? = some (0, 12)) (hq : ∀ l H', (K ++ l).length = a + 48 → (∀ x, x < a → H' x = H x) → BmK (K ++ l) H' a → q l H') : Cn mX0_init (d + 3) 47 174 [(2, (a : Int))] K H q := by
  refine eX0_init fun _ => bX0_init_0 ?_
  simp only [Int.toNat_natCast]
  have S0 := St.start (H := H) hn
  refine ⟨by omega, ha, ?_⟩
  intro H0 h0
  obtain ⟨S1, v0, L0⟩ := S0.fld h0
  refine ⟨by decide, by decide, fun A1 a1 B1 b1 H1 h1 => ?_⟩
  obtain ⟨S2, w1, z1, v1, L1⟩ := S1.arr a1 b1 h1
  refine ⟨by decide, by decide, fun A2 a2 B2 b2 H2 h2 => ?_⟩
  obtain ⟨S3, w2, z2, v2, L2⟩ := S2.arr a2 b2 h2
  refine ⟨by decide, by decide, fun A3 a3 B3 b3 => ⟨by decide, by decide, ?_⟩⟩
  obtain ⟨o3, p3, r3, x3, _, f3⟩ := S3.obj a3 b3
  rw [o3]
  refine in_X3 (a := a + 3) p3 r3 ?_
  intro l3 C3 len3 fr3 w3 K3 k3 H3 h3
  rw [← o3] at h3
  obtain ⟨S4, v3, L3, M3⟩ := S3.made (m := a + 14) a3 b3 (by omega) fr3 k3 h3
  rw [← k3] at w3
  clear a3 b3 o3 p3 r3 x3 f3 len3 fr3 h3
  have W3 := w3.later M3 (by omega) (by omega)
  refine ⟨by decide, by decide, fun A4 a4 B4 b4 => ⟨by decide, by decide, ?_⟩⟩
  obtain ⟨o4, p4, r4, x4, _, f4⟩ := S4.obj a4 b4
  rw [o4]
  refine in_X3 (a := a + 14) p4 r4 ?_
  intro l4 C4 len4 fr4 w4 K4 k4 H4 h4
  rw [← o4] at h4
  obtain ⟨S5, v4, L4, M4⟩ := S4.made (m := a + 25) a4 b4 (by omega) fr4 k4 h4
  rw [← k4] at w4
  clear a4 b4 o4 p4 r4 x4 f4 len4 fr4 h4
  have W4 := w4.later M4 (by omega) (by omega)
  intro H5 h5
  obtain ⟨S6, v5, L5⟩ := S5.fld h5
  intro H6 h6
  obtain ⟨S7, v6, L6⟩ := S6.fld h6
  refine ⟨by decide, by decide, fun A7 a7 B7 b7 => ⟨by decide, by decide, ?_⟩⟩
  obtain ⟨o7, p7, r7, x7, _, f7⟩ := S7.obj a7 b7
  rw [o7]
  refine in_X9 (a := a + 25) p7 r7 ?_
  intro l7 C7 len7 fr7 w7 u7 K7 k7 H7 h7
  rw [← o7] at h7
  obtain ⟨S8, v7, L7, M7⟩ := S7.made (m := a + 29) a7 b7 (by omega) fr7 k7 h7
  rw [← k7] at w7
  clear a7 b7 o7 p7 r7 x7 f7 len7 fr7 h7
  have U7 : WkP (H7 (a + 25)) (a + 25) := by rw [M7.2 _ (by omega) (by omega)]; exact u7
  refine ⟨by decide, by decide, fun A8 a8 B8 b8 => ⟨by decide, by decide, ?_⟩⟩
  obtain ⟨o8, p8, r8, x8, _, f8⟩ := S8.obj a8 b8
  rw [o8]
  refine in_X5 (a := a + 29) p8 r8 ?_
  intro l8 C8 len8 fr8 w8 K8 k8 H8 h8
  rw [← o8] at h8
  obtain ⟨S9, v8, L8, M8⟩ := S8.made (m := a + 30) a8 b8 (by omega) fr8 k8 h8
  rw [← k8] at w8
  clear a8 b8 o8 p8 r8 x8 f8 len8 fr8 h8
  refine ⟨by decide, by decide, fun A9 a9 B9 b9 => ⟨by decide, by decide, ?_⟩⟩
  obtain ⟨o9, p9, r9, x9, _, f9⟩ := S9.obj a9 b9
  rw [o9]
  refine in_X5 (a := a + 30) p9 r9 ?_
  intro l9 C9 len9 fr9 w9 K9 k9 H9 h9
  rw [← o9] at h9
  obtain ⟨S10, v9, L9, M9⟩ := S9.made (m := a + 31) a9 b9 (by omega) fr9 k9 h9
  rw [← k9] at w9
  clear a9 b9 o9 p9 r9 x9 f9 len9 fr9 h9
  refine ⟨by decide, by decide, fun A10 a10 B10 b10 => ⟨by decide, by decide, ?_⟩⟩
  obtain ⟨o10, p10, r10, x10, _, f10⟩ := S10.obj a10 b10
  rw [o10]
  refine in_X5 (a := a + 31) p10 r10 ?_
  intro l10 C10 len10 fr10 w10 K10 k10 H10 h10
  rw [← o10] at h10
  obtain ⟨S11, v10, L10, M10⟩ := S10.made (m := a + 32) a10 b10 (by omega) fr10 k10 h10
  rw [← k10] at w10
  clear a10 b10 o10 p10 r10 x10 f10 len10 fr10 h10
  refine ⟨by decide, by decide, fun A11 a11 B11 b11 => ⟨by decide, by decide, ?_⟩⟩
  obtain ⟨o11, p11, r11, x11, _, f11⟩ := S11.obj a11 b11
  rw [o11]
  refine in_X5 (a := a + 32) p11 r11 ?_
  intro l11 C11 len11 fr11 w11 K11 k11 H11 h11
  rw [← o11] at h11
  obtain ⟨S12, v11, L11, M11⟩ := S11.made (m := a + 33) a11 b11 (by omega) fr11 k11 h11
  rw [← k11] at w11
  clear a11 b11 o11 p11 r11 x11 f11 len11 fr11 h11
  have T10 := L11
  have T9 := L10.tr T10 (by omega)
  have T8 := L9.tr T9 (by omega)
  have T7 := L8.tr T8 (by omega)
  have T6 := L7.tr T7 (by omega)
  have T5 := L6.tr T6 (by omega)
  have T4 := L5.tr T5 (by omega)
  have T3 := L4.tr T4 (by omega)
  have T2 := L3.tr T3 (by omega)
  have T1 := L2.tr T2 (by omega)
  have T0 := L1.tr T1 (by omega)
  have TT := L0.tr T0 (by omega)
  have vv : H11 a = (up1 (up1 (up1 (up1 (up1 (up1 (up1 (up1 (up1 (up1 (up1 (up1 (H a) 0 0) 1 ((a + 1 : Nat) : Int)) 2 ((a + 2 : Nat) : Int)) 3 ((a + 3 : Nat) : Int)) 4 ((a + 14 : Nat) : Int)) 5 0) 6 0) 7 ((a + 25 : Nat) : Int)) 8 ((a + 29 : Nat) : Int)) 9 ((a + 30 : Nat) : Int)) 10 ((a + 31 : Nat) : Int)) 11 ((a + 32 : Nat) : Int)) := by rw [v11, v10, v9, v8, v7, v6, v5, v4, v3, v2, v1, v0]
  have kF : K11[a + 1]? = some (24, 5) := T1.1 _ _ w1
  refine bm_loop (TT.1 _ _ ha) kF (by rw [vv]; rfl) ?_ 5 0 K11 H11 _ _ (by omega) (by decide) (by decide) ⟨[], (List.append_nil _).symm⟩ S12.2.1 Later.rf (fun j hj => absurd hj (by omega))
  intro K' H' gr len LL sp
  have g0 := S12.1
  refine qn_of (by
    obtain ⟨l1, e1⟩ := g0
    obtain ⟨l2, e2⟩ := gr
    exact ⟨l1 ++ l2, by rw [e2, e1, List.append_assoc]⟩) (fun l el => ?_)
  have va : H' a = (up1 (up1 (up1 (up1 (up1 (up1 (up1 (up1 (up1 (up1 (up1 (up1 (H a) 0 0) 1 ((a + 1 : Nat) : Int)) 2 ((a + 2 : Nat) : Int)) 3 ((a + 3 : Nat) : Int)) 4 ((a + 14 : Nat) : Int)) 5 0) 6 0) 7 ((a + 25 : Nat) : Int)) 8 ((a + 29 : Nat) : Int)) 9 ((a + 30 : Nat) : Int)) 10 ((a + 31 : Nat) : Int)) 11 ((a + 32 : Nat) : Int)) := by rw [LL.2 a (by omega) (by omega)]; exact vv
  have R : BmK K' H' a := by
    refine ⟨LL.1 _ _ (TT.1 _ _ ha), LL.1 _ _ kF, ⟨LL.1 _ _ (T2.1 _ _ w2), fun e => ?_⟩, (W3.later T3 (by omega) (by omega)).later LL (by omega) (by omega), (W4.later T4 (by omega) (by omega)).later LL (by omega) (by omega), ⟨(w7.later T7).later LL, ?_⟩, ⟨LL.1 _ _ (T8.1 _ _ w8), LL.1 _ _ (T9.1 _ _ w9), LL.1 _ _ (T10.1 _ _ w10), LL.1 _ _ w11⟩, sp, ?_, ?_⟩
    · rw [LL.2 (a + 2) (by omega) (by omega), T2.2 (a + 2) (by omega) (by omega), z2]; rfl
    · rw [LL.2 (a + 25) (by omega) (by omega), T7.2 (a + 25) (by omega) (by omega)]; exact U7
    · rw [va]; exact ⟨rfl, rfl, rfl, rfl, rfl, rfl, rfl, rfl, rfl⟩
    · rw [va]; rfl
  rw [el] at R
  exact hq l H' (by rw [← el]; exact len) (fun x hx => (LL.2 x (by omega) (by omega)).trans (S12.2.2.2 x hx)) R
end Mk2
