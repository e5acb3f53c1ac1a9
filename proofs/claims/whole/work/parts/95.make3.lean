/-! constructor of RodBeam -/
section Mk3
variable {d : Nat} {K : Shp} {H : Mem} {a : Nat} {q : Shp → Mem → Prop}
set_option maxHeartbeats 1000000 in
theorem rb_loop {Kb : Shp} {Hb : Mem} {Q : Option AV → Shp → Mem → Prop} (ka : Kb[a]? = some (11, 8)) (k1 : Kb[a + 14]? = some (23, 4)) (p1 : Hb a 2 = ((a + 14 : Nat) : Int)) (hq : ∀ K' H', (∃ l, K' = Kb ++ l) → K'.length = a + 123 → Later (a + 14) (a + 83) Kb Hb K' H' → (∀ i, i < 4 → SecN K' H' (a + 83 + 10 * i) ∧ H' (a + 14) i = ((a + 83 + 10 * i : Nat) : Int)) → Q none K' H') :
    ∀ m i K H fc fs, i + m = 4 → fc = 10 * m → fs = 114 * m → (∃ l, K = Kb ++ l) → K.length = a + 83 + 10 * i → Later (a + 14) (a + 83) Kb Hb K H → (∀ j, j < i → SecN K H (a + 83 + 10 * j) ∧ H (a + 14) j = ((a + 83 + 10 * j : Nat) : Int)) → FX11_init_85 (d + 3) fc fs K H Q (a : Int) (i : Int) := by
  intro m
  induction m with
  | zero =>
    intro i K H fc fs hm e1 e2 gr len L sp
    have ei : i = 4 := by omega
    rw [ei] at len sp
    exact bX11_init_85 ⟨fun _ => hq K H gr (by omega) L sp, fun g => by omega⟩
  | succ m ih =>
    intro i K H fc fs hm e1 e2 gr len L sp
    have pa : H a 2 = ((a + 14 : Nat) : Int) := by rw [L.2 a (by omega) (by omega)]; exact p1
    refine bX11_init_85 ?_
    simp only [Int.toNat_natCast, pa]
    refine ⟨fun g => by omega, fun _ => ⟨by omega, L.1 _ _ ka, by omega, by omega, fun A0 a0 B0 b0 => ⟨by omega, by omega, ?_⟩⟩⟩
    have S : St K H (a + 82 + 10 * i) K H (a + 83 + 10 * i) := ⟨⟨[], (List.append_nil K).symm⟩, len, by omega, fun _ _ => rfl⟩
    obtain ⟨o0, p0, r0, x0, _, f0⟩ := S.obj a0 b0
    rw [o0]
    refine in_X4 (a := a + 83 + 10 * i) p0 r0 ?_
    intro l0 C0 len0 fr0 w0 K0 k0
    have X0 : Ext K K0 := x0.tr (by rw [k0]; exact Ext.app _)
    refine ⟨by omega, 4, X0 _ _ (L.1 _ _ k1), by omega, by omega, fun H1 h1 => ⟨⟨by omega, by omega⟩, ih (i + 1) K0 H1 _ _ (by omega) (by omega) (by omega) ?_ (by rw [k0]; omega) ?_ ?_⟩⟩
    · obtain ⟨l, el⟩ := gr
      exact ⟨l ++ ([(4, 18)] ++ l0), by rw [k0, b0, el, List.append_assoc, List.append_assoc]⟩
    · exact ⟨L.1.tr X0, fun x y1 y2 => by rw [h1, upA_ne y1, fr0 x (by omega), f0 x (by omega)]; exact L.2 x y1 y2⟩
    · intro j hj
      rw [← k0] at w0
      have LL : Later (a + 14) (a + 83 + 10 * i + 10) K0 C0 K0 H1 := ⟨Ext.rf, fun x y1 _ => by rw [h1, upA_ne y1]⟩
      by_cases e : j = i
      · rw [e]
        exact ⟨w0.later LL (by omega) (by omega), by rw [h1, upA_same, up1_same]⟩
      · have g := sp j (by omega)
        have L2 : Later (a + 14) (a + 83 + 10 * i) K H K0 H1 := ⟨X0, fun x y1 y2 => by rw [h1, upA_ne y1, fr0 x y2, f0 x y2]⟩
        refine ⟨g.1.later L2 (by omega) (by omega), ?_⟩
        rw [h1, upA_same, up1_ne e, fr0 _ (by omega), f0 _ (by omega)]
        exact g.2
/-- a new RodBeam at a -/
def RbN (K : Shp) (H : Mem) (a : Nat) : Prop := K[a]? = some (11, 8) ∧ TxtK K H (a + 1) ∧ K[a + 14]? = some (23, 4) ∧ (TriK 2 8 K H (a + 15) ∧ H (a + 15) 0 = 0) ∧ (TriK 6 4 K H (a + 18) ∧ H (a + 18) 0 = 0) ∧ BmK K H (a + 21) ∧ (WkS K (a + 69) ∧ WkP (H (a + 69)) (a + 69)) ∧ ChoK K H (a + 73) ∧ (∀ i, i < 4 → SecN K H (a + 83 + 10 * i) ∧ H (a + 14) i = ((a + 83 + 10 * i : Nat) : Int)) ∧ RbP (H a) a ∧ H a 0 = 0
set_option maxHeartbeats 2000000 in
theorem in_X11 (hn : K.length = a + 1) (ha : K[a]? = some (11, 8)) (hq : ∀ l H', (K ++ l).length = a + 123 → (∀ x, x < a → H' x = H x) → RbN (K ++ l) H' a → q l H') : Cn mX11_init (d + 4) 122 965 [(2, (a : Int))] K H q := by
  refine eX11_init fun _ => bX11_init_0 ?_
  simp only [Int.toNat_natCast]
  have S0 := St.start (H := H) hn
  refine ⟨by omega, ha, ?_⟩
  intro H0 h0
  obtain ⟨S1, v0, L0⟩ := S0.fld h0
  refine ⟨by decide, by decide, fun A1 a1 B1 b1 => ⟨by decide, by decide, ?_⟩⟩
  obtain ⟨o1, p1, r1, x1, _, f1⟩ := S1.obj a1 b1
  rw [o1]
  refine in_X8 (a := a + 1) p1 r1 ?_
  intro l1 C1 len1 fr1 w1 K1 k1 H1 h1
  rw [← o1] at h1
  obtain ⟨S2, v1, L1, M1⟩ := S1.made (m := a + 14) a1 b1 (by omega) fr1 k1 h1
  rw [← k1] at w1
  clear a1 b1 o1 p1 r1 x1 f1 len1 fr1 h1
  have W1 := w1.later M1 (by omega) (by omega)
  refine ⟨by decide, by decide, fun A2 a2 B2 b2 H2 h2 => ?_⟩
  obtain ⟨S3, w2, z2, v2, L2⟩ := S2.arr a2 b2 h2
  refine ⟨by decide, by decide, fun A3 a3 B3 b3 => ⟨by decide, by decide, ?_⟩⟩
  obtain ⟨o3, p3, r3, x3, _, f3⟩ := S3.obj a3 b3
  rw [o3]
  refine in_X2 (a := a + 15) p3 r3 ?_
  intro l3 C3 len3 fr3 w3 u3 K3 k3 H3 h3
  rw [← o3] at h3
  obtain ⟨S4, v3, L3, M3⟩ := S3.made (m := a + 18) a3 b3 (by omega) fr3 k3 h3
  rw [← k3] at w3
  clear a3 b3 o3 p3 r3 x3 f3 len3 fr3 h3
  have W3 := w3.later M3 (by omega) (by omega)
  have U3 : H3 (a + 15) 0 = 0 := by rw [M3.2 _ (by omega) (by omega)]; exact u3
  refine ⟨by decide, by decide, fun A4 a4 B4 b4 => ⟨by decide, by decide, ?_⟩⟩
  obtain ⟨o4, p4, r4, x4, _, f4⟩ := S4.obj a4 b4
  rw [o4]
  refine in_X6 (a := a + 18) p4 r4 ?_
  intro l4 C4 len4 fr4 w4 u4 K4 k4 H4 h4
  rw [← o4] at h4
  obtain ⟨S5, v4, L4, M4⟩ := S4.made (m := a + 21) a4 b4 (by omega) fr4 k4 h4
  rw [← k4] at w4
  clear a4 b4 o4 p4 r4 x4 f4 len4 fr4 h4
  have W4 := w4.later M4 (by omega) (by omega)
  have U4 : H4 (a + 18) 0 = 0 := by rw [M4.2 _ (by omega) (by omega)]; exact u4
  refine ⟨by decide, by decide, fun A5 a5 B5 b5 => ⟨by decide, by decide, ?_⟩⟩
  obtain ⟨o5, p5, r5, x5, _, f5⟩ := S5.obj a5 b5
  rw [o5]
  refine in_X0 (a := a + 21) p5 r5 ?_
  intro l5 C5 len5 fr5 w5 K5 k5 H5 h5
  rw [← o5] at h5
  obtain ⟨S6, v5, L5, M5⟩ := S5.made (m := a + 69) a5 b5 (by omega) fr5 k5 h5
  rw [← k5] at w5
  clear a5 b5 o5 p5 r5 x5 f5 len5 fr5 h5
  have W5 := w5.later M5 (by omega) (by omega)
  refine ⟨by decide, by decide, fun A6 a6 B6 b6 => ⟨by decide, by decide, ?_⟩⟩
  obtain ⟨o6, p6, r6, x6, _, f6⟩ := S6.obj a6 b6
  rw [o6]
  refine in_X9 (a := a + 69) p6 r6 ?_
  intro l6 C6 len6 fr6 w6 u6 K6 k6 H6 h6
  rw [← o6] at h6
  obtain ⟨S7, v6, L6, M6⟩ := S6.made (m := a + 73) a6 b6 (by omega) fr6 k6 h6
  rw [← k6] at w6
  clear a6 b6 o6 p6 r6 x6 f6 len6 fr6 h6
  have U6 : WkP (H6 (a + 69)) (a + 69) := by rw [M6.2 _ (by omega) (by omega)]; exact u6
  refine ⟨by decide, by decide, fun A7 a7 B7 b7 => ⟨by decide, by decide, ?_⟩⟩
  obtain ⟨o7, p7, r7, x7, _, f7⟩ := S7.obj a7 b7
  rw [o7]
  refine in_X1 (a := a + 73) p7 r7 ?_
  intro l7 C7 len7 fr7 w7 K7 k7 H7 h7
  rw [← o7] at h7
  obtain ⟨S8, v7, L7, M7⟩ := S7.made (m := a + 83) a7 b7 (by omega) fr7 k7 h7
  rw [← k7] at w7
  clear a7 b7 o7 p7 r7 x7 f7 len7 fr7 h7
  have W7 := w7.later M7 (by omega) (by omega)
  have T6 := L7
  have T5 := L6.tr T6 (by omega)
  have T4 := L5.tr T5 (by omega)
  have T3 := L4.tr T4 (by omega)
  have T2 := L3.tr T3 (by omega)
  have T1 := L2.tr T2 (by omega)
  have T0 := L1.tr T1 (by omega)
  have TT := L0.tr T0 (by omega)
  have vv : H7 a = (up1 (up1 (up1 (up1 (up1 (up1 (up1 (up1 (H a) 0 0) 1 ((a + 1 : Nat) : Int)) 2 ((a + 14 : Nat) : Int)) 3 ((a + 15 : Nat) : Int)) 4 ((a + 18 : Nat) : Int)) 5 ((a + 21 : Nat) : Int)) 6 ((a + 69 : Nat) : Int)) 7 ((a + 73 : Nat) : Int)) := by rw [v7, v6, v5, v4, v3, v2, v1, v0]
  have kF : K7[a + 14]? = some (23, 4) := T2.1 _ _ w2
  refine rb_loop (TT.1 _ _ ha) kF (by rw [vv]; rfl) ?_ 4 0 K7 H7 _ _ (by omega) (by decide) (by decide) ⟨[], (List.append_nil _).symm⟩ S8.2.1 Later.rf (fun j hj => absurd hj (by omega))
  intro K' H' gr len LL sp
  have g0 := S8.1
  refine qn_of (by
    obtain ⟨l1, e1⟩ := g0
    obtain ⟨l2, e2⟩ := gr
    exact ⟨l1 ++ l2, by rw [e2, e1, List.append_assoc]⟩) (fun l el => ?_)
  have va : H' a = (up1 (up1 (up1 (up1 (up1 (up1 (up1 (up1 (H a) 0 0) 1 ((a + 1 : Nat) : Int)) 2 ((a + 14 : Nat) : Int)) 3 ((a + 15 : Nat) : Int)) 4 ((a + 18 : Nat) : Int)) 5 ((a + 21 : Nat) : Int)) 6 ((a + 69 : Nat) : Int)) 7 ((a + 73 : Nat) : Int)) := by rw [LL.2 a (by omega) (by omega)]; exact vv
  have R : RbN K' H' a := by
    refine ⟨LL.1 _ _ (TT.1 _ _ ha), (W1.later T1 (by omega) (by omega)).later LL (by omega) (by omega), LL.1 _ _ kF, ⟨(W3.later T3 (by omega) (by omega)).later LL (by omega) (by omega), ?_⟩, ⟨(W4.later T4 (by omega) (by omega)).later LL (by omega) (by omega), ?_⟩, (W5.later T5 (by omega) (by omega)).later LL (by omega) (by omega), ⟨(w6.later T6).later LL, ?_⟩, W7.later LL (by omega) (by omega), sp, ?_, ?_⟩
    · rw [LL.2 (a + 15) (by omega) (by omega), T3.2 (a + 15) (by omega) (by omega)]; exact U3
    · rw [LL.2 (a + 18) (by omega) (by omega), T4.2 (a + 18) (by omega) (by omega)]; exact U4
    · rw [LL.2 (a + 69) (by omega) (by omega), T6.2 (a + 69) (by omega) (by omega)]; exact U6
    · rw [va]; exact ⟨rfl, rfl, rfl, rfl, rfl, rfl, rfl⟩
    · rw [va]; rfl
  rw [el] at R
  exact hq l H' (by rw [← el]; exact len) (fun x hx => (LL.2 x (by omega) (by omega)).trans (S8.2.2.2 x hx)) R
end Mk3
